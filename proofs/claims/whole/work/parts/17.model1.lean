/-! pure programs and their proofs: model1 (written by gen.py) -/
def y_Model_thrown : MethodName := ⟨R_Model, "thrown", "()I"⟩
abbrev b_Model_thrown : ByteArray := prog_12_method_2_code
theorem v_Model_thrown : HVirt y_Model_thrown b_Model_thrown 1 (some .int) 0 := ⟨List.forall_mem_cons.mpr ⟨h_inI 1208 (by decide +kernel) rfl, List.forall_mem_cons.mpr ⟨h_inI 1209 (by decide +kernel) rfl, List.forall_mem_cons.mpr ⟨h_inI 110 (by decide +kernel) rfl, List.forall_mem_cons.mpr ⟨h_inI 1210 (by decide +kernel) rfl, fun _ h => absurd h List.not_mem_nil⟩⟩⟩⟩, by decide, by decide, by decide +kernel⟩
def y_Model_in : MethodName := ⟨R_Model, "in", "(III)Z"⟩
abbrev b_Model_in : ByteArray := prog_12_method_3_code
theorem v_Model_in : HStat y_Model_in b_Model_in 3 (some .boolean) 3 := ⟨List.forall_mem_cons.mpr ⟨h_inI 1219 (by decide +kernel) rfl, List.forall_mem_cons.mpr ⟨h_inI 110 (by decide +kernel) rfl, List.forall_mem_cons.mpr ⟨h_inI 1220 (by decide +kernel) rfl, fun _ h => absurd h List.not_mem_nil⟩⟩⟩, by decide, by decide, by decide +kernel⟩
def y_Model_fails : MethodName := ⟨R_Model, "fails", "(I)I"⟩
abbrev b_Model_fails : ByteArray := prog_12_method_4_code
theorem v_Model_fails : HVirt y_Model_fails b_Model_fails 2 (some .int) 1 := ⟨List.forall_mem_cons.mpr ⟨h_inI 1223 (by decide +kernel) rfl, List.forall_mem_cons.mpr ⟨h_inI 33 (by decide +kernel) rfl, List.forall_mem_cons.mpr ⟨h_inI 110 (by decide +kernel) rfl, List.forall_mem_cons.mpr ⟨h_inI 1224 (by decide +kernel) rfl, fun _ h => absurd h List.not_mem_nil⟩⟩⟩⟩, by decide, by decide, by decide +kernel⟩
def y_Model_tells : MethodName := ⟨R_Model, "tells", "(I)I"⟩
abbrev b_Model_tells : ByteArray := prog_12_method_5_code
theorem v_Model_tells : HVirt y_Model_tells b_Model_tells 2 (some .int) 1 := ⟨List.forall_mem_cons.mpr ⟨h_inI 1382 (by decide +kernel) rfl, List.forall_mem_cons.mpr ⟨h_inI 62 (by decide +kernel) rfl, List.forall_mem_cons.mpr ⟨h_inI 110 (by decide +kernel) rfl, List.forall_mem_cons.mpr ⟨h_inI 1383 (by decide +kernel) rfl, fun _ h => absurd h List.not_mem_nil⟩⟩⟩⟩, by decide, by decide, by decide +kernel⟩
def y_Model_isGraph : MethodName := ⟨R_Model, "isGraph", "(I)Z"⟩
abbrev b_Model_isGraph : ByteArray := prog_12_method_6_code
theorem v_Model_isGraph : HStat y_Model_isGraph b_Model_isGraph 1 (some .boolean) 1 := ⟨List.forall_mem_cons.mpr ⟨h_inI 1216 (by decide +kernel) rfl, List.forall_mem_cons.mpr ⟨h_inI 110 (by decide +kernel) rfl, List.forall_mem_cons.mpr ⟨h_inI 1217 (by decide +kernel) rfl, fun _ h => absurd h List.not_mem_nil⟩⟩⟩, by decide, by decide, by decide +kernel⟩
def y_Model_size : MethodName := ⟨R_Model, "size", "(I)I"⟩
abbrev b_Model_size : ByteArray := prog_12_method_7_code
theorem v_Model_size : HVirt y_Model_size b_Model_size 2 (some .int) 1 := ⟨List.forall_mem_cons.mpr ⟨h_inI 1227 (by decide +kernel) rfl, List.forall_mem_cons.mpr ⟨h_inI 34 (by decide +kernel) rfl, List.forall_mem_cons.mpr ⟨h_inI 110 (by decide +kernel) rfl, List.forall_mem_cons.mpr ⟨h_inI 1228 (by decide +kernel) rfl, fun _ h => absurd h List.not_mem_nil⟩⟩⟩⟩, by decide, by decide, by decide +kernel⟩
def y_Model_isVertex : MethodName := ⟨R_Model, "isVertex", "(II)Z"⟩
abbrev b_Model_isVertex : ByteArray := prog_12_method_8_code
theorem v_Model_isVertex : HVirt y_Model_isVertex b_Model_isVertex 3 (some .boolean) 2 := ⟨List.forall_mem_cons.mpr ⟨h_inI 1251 (by decide +kernel) rfl, List.forall_mem_cons.mpr ⟨h_inI 39 (by decide +kernel) rfl, List.forall_mem_cons.mpr ⟨h_inI 110 (by decide +kernel) rfl, List.forall_mem_cons.mpr ⟨h_inI 1252 (by decide +kernel) rfl, fun _ h => absurd h List.not_mem_nil⟩⟩⟩⟩, by decide, by decide, by decide +kernel⟩
def y_Model_weight : MethodName := ⟨R_Model, "weight", "(II)I"⟩
abbrev b_Model_weight : ByteArray := prog_12_method_9_code
theorem v_Model_weight : HVirt y_Model_weight b_Model_weight 3 (some .int) 2 := ⟨List.forall_mem_cons.mpr ⟨h_inI 1255 (by decide +kernel) rfl, List.forall_mem_cons.mpr ⟨h_inI 40 (by decide +kernel) rfl, List.forall_mem_cons.mpr ⟨h_inI 110 (by decide +kernel) rfl, List.forall_mem_cons.mpr ⟨h_inI 1256 (by decide +kernel) rfl, fun _ h => absurd h List.not_mem_nil⟩⟩⟩⟩, by decide, by decide, by decide +kernel⟩
def y_Model_between : MethodName := ⟨R_Model, "between", "(III)I"⟩
abbrev b_Model_between : ByteArray := prog_12_method_10_code
theorem v_Model_between : HVirt y_Model_between b_Model_between 4 (some .int) 3 := ⟨List.forall_mem_cons.mpr ⟨h_inI 1263 (by decide +kernel) rfl, List.forall_mem_cons.mpr ⟨h_inI 41 (by decide +kernel) rfl, List.forall_mem_cons.mpr ⟨h_inI 110 (by decide +kernel) rfl, List.forall_mem_cons.mpr ⟨h_inI 1264 (by decide +kernel) rfl, fun _ h => absurd h List.not_mem_nil⟩⟩⟩⟩, by decide, by decide, by decide +kernel⟩
def y_Model_isNear : MethodName := ⟨R_Model, "isNear", "(III)Z"⟩
abbrev b_Model_isNear : ByteArray := prog_12_method_11_code
theorem v_Model_isNear : HVirt y_Model_isNear b_Model_isNear 4 (some .boolean) 3 := ⟨List.forall_mem_cons.mpr ⟨h_inI 1315 (by decide +kernel) rfl, List.forall_mem_cons.mpr ⟨h_inI 47 (by decide +kernel) rfl, List.forall_mem_cons.mpr ⟨h_inI 110 (by decide +kernel) rfl, List.forall_mem_cons.mpr ⟨h_inI 1316 (by decide +kernel) rfl, fun _ h => absurd h List.not_mem_nil⟩⟩⟩⟩, by decide, by decide, by decide +kernel⟩
def y_Model_puts : MethodName := ⟨R_Model, "puts", "(IIII)V"⟩
abbrev b_Model_puts : ByteArray := prog_12_method_12_code
theorem v_Model_puts : HVirt y_Model_puts b_Model_puts 5 none 4 := ⟨List.forall_mem_cons.mpr ⟨h_inI 1267 (by decide +kernel) rfl, List.forall_mem_cons.mpr ⟨h_inI 42 (by decide +kernel) rfl, List.forall_mem_cons.mpr ⟨h_inI 110 (by decide +kernel) rfl, List.forall_mem_cons.mpr ⟨h_inI 1268 (by decide +kernel) rfl, fun _ h => absurd h List.not_mem_nil⟩⟩⟩⟩, by decide, by decide, by decide +kernel⟩
def y_Model_begins : MethodName := ⟨R_Model, "begins", "(II)V"⟩
abbrev b_Model_begins : ByteArray := prog_12_method_13_code
theorem v_Model_begins : HVirt y_Model_begins b_Model_begins 4 none 2 := ⟨List.forall_mem_cons.mpr ⟨h_inI 1231 (by decide +kernel) rfl, List.forall_mem_cons.mpr ⟨h_inI 35 (by decide +kernel) rfl, List.forall_mem_cons.mpr ⟨h_inI 110 (by decide +kernel) rfl, List.forall_mem_cons.mpr ⟨h_inI 1232 (by decide +kernel) rfl, fun _ h => absurd h List.not_mem_nil⟩⟩⟩⟩, by decide, by decide, by decide +kernel⟩
def y_Model_copies : MethodName := ⟨R_Model, "copies", "(II)V"⟩
abbrev b_Model_copies : ByteArray := prog_12_method_14_code
theorem v_Model_copies : HVirt y_Model_copies b_Model_copies 4 none 2 := ⟨List.forall_mem_cons.mpr ⟨h_inI 1243 (by decide +kernel) rfl, List.forall_mem_cons.mpr ⟨h_inI 38 (by decide +kernel) rfl, List.forall_mem_cons.mpr ⟨h_inI 110 (by decide +kernel) rfl, List.forall_mem_cons.mpr ⟨h_inI 1244 (by decide +kernel) rfl, fun _ h => absurd h List.not_mem_nil⟩⟩⟩⟩, by decide, by decide, by decide +kernel⟩
def y_Model_save : MethodName := ⟨R_Model, "save", "()V"⟩
abbrev b_Model_save : ByteArray := prog_12_method_15_code
theorem v_Model_save : HVirt y_Model_save b_Model_save 2 none 0 := ⟨List.forall_mem_cons.mpr ⟨h_inI 1239 (by decide +kernel) rfl, List.forall_mem_cons.mpr ⟨h_inI 37 (by decide +kernel) rfl, List.forall_mem_cons.mpr ⟨h_inI 110 (by decide +kernel) rfl, List.forall_mem_cons.mpr ⟨h_inI 1240 (by decide +kernel) rfl, fun _ h => absurd h List.not_mem_nil⟩⟩⟩⟩, by decide, by decide, by decide +kernel⟩
def y_Model_keeps : MethodName := ⟨R_Model, "keeps", "(I)V"⟩
abbrev b_Model_keeps : ByteArray := prog_12_method_16_code
theorem v_Model_keeps : HVirt y_Model_keeps b_Model_keeps 2 none 1 := ⟨List.forall_mem_cons.mpr ⟨h_inI 1235 (by decide +kernel) rfl, List.forall_mem_cons.mpr ⟨h_inI 36 (by decide +kernel) rfl, List.forall_mem_cons.mpr ⟨h_inI 110 (by decide +kernel) rfl, List.forall_mem_cons.mpr ⟨h_inI 1236 (by decide +kernel) rfl, fun _ h => absurd h List.not_mem_nil⟩⟩⟩⟩, by decide, by decide, by decide +kernel⟩
def y_Model_setSize : MethodName := ⟨R_Model, "setSize", "(II)I"⟩
abbrev b_Model_setSize : ByteArray := prog_12_method_17_code
theorem v_Model_setSize : HVirt y_Model_setSize b_Model_setSize 4 (some .int) 2 := ⟨List.forall_mem_cons.mpr ⟨h_inI 1212 (by decide +kernel) rfl, List.forall_mem_cons.mpr ⟨h_inI 1213 (by decide +kernel) rfl, List.forall_mem_cons.mpr ⟨h_inI 110 (by decide +kernel) rfl, List.forall_mem_cons.mpr ⟨h_inI 1214 (by decide +kernel) rfl, fun _ h => absurd h List.not_mem_nil⟩⟩⟩⟩, by decide, by decide, by decide +kernel⟩
def y_Model_setVertex : MethodName := ⟨R_Model, "setVertex", "(III)I"⟩
abbrev b_Model_setVertex : ByteArray := prog_12_method_18_code
theorem v_Model_setVertex : HVirt y_Model_setVertex b_Model_setVertex 5 (some .int) 3 := ⟨List.forall_mem_cons.mpr ⟨h_inI 1246 (by decide +kernel) rfl, List.forall_mem_cons.mpr ⟨h_inI 1247 (by decide +kernel) rfl, List.forall_mem_cons.mpr ⟨h_inI 110 (by decide +kernel) rfl, List.forall_mem_cons.mpr ⟨h_inI 1248 (by decide +kernel) rfl, fun _ h => absurd h List.not_mem_nil⟩⟩⟩⟩, by decide, by decide, by decide +kernel⟩
def y_Model_setEdge : MethodName := ⟨R_Model, "setEdge", "(IIII)I"⟩
abbrev b_Model_setEdge : ByteArray := prog_12_method_19_code
theorem v_Model_setEdge : HVirt y_Model_setEdge b_Model_setEdge 6 (some .int) 4 := ⟨List.forall_mem_cons.mpr ⟨h_inI 1258 (by decide +kernel) rfl, List.forall_mem_cons.mpr ⟨h_inI 1259 (by decide +kernel) rfl, List.forall_mem_cons.mpr ⟨h_inI 110 (by decide +kernel) rfl, List.forall_mem_cons.mpr ⟨h_inI 1260 (by decide +kernel) rfl, fun _ h => absurd h List.not_mem_nil⟩⟩⟩⟩, by decide, by decide, by decide +kernel⟩
def y_Model_isOf : MethodName := ⟨R_Model, "isOf", "(IIII)Z"⟩
abbrev b_Model_isOf : ByteArray := prog_12_method_20_code
theorem v_Model_isOf : HStat y_Model_isOf b_Model_isOf 4 (some .boolean) 4 := ⟨List.forall_mem_cons.mpr ⟨h_inI 1274 (by decide +kernel) rfl, List.forall_mem_cons.mpr ⟨h_inI 110 (by decide +kernel) rfl, List.forall_mem_cons.mpr ⟨h_inI 1275 (by decide +kernel) rfl, fun _ h => absurd h List.not_mem_nil⟩⟩⟩, by decide, by decide, by decide +kernel⟩
def y_Model_make : MethodName := ⟨R_Model, "make", "(III)I"⟩
abbrev b_Model_make : ByteArray := prog_12_method_21_code
theorem v_Model_make : HVirt y_Model_make b_Model_make 7 (some .int) 3 := ⟨List.forall_mem_cons.mpr ⟨h_inI 1270 (by decide +kernel) rfl, List.forall_mem_cons.mpr ⟨h_inI 1271 (by decide +kernel) rfl, List.forall_mem_cons.mpr ⟨h_inI 110 (by decide +kernel) rfl, List.forall_mem_cons.mpr ⟨h_inI 1272 (by decide +kernel) rfl, fun _ h => absurd h List.not_mem_nil⟩⟩⟩⟩, by decide, by decide, by decide +kernel⟩
def y_Model_random : MethodName := ⟨R_Model, "random", "(IIII)I"⟩
abbrev b_Model_random : ByteArray := prog_12_method_22_code
theorem v_Model_random : HVirt y_Model_random b_Model_random 10 (some .int) 4 := ⟨List.forall_mem_cons.mpr ⟨h_inI 1277 (by decide +kernel) rfl, List.forall_mem_cons.mpr ⟨h_inI 1278 (by decide +kernel) rfl, List.forall_mem_cons.mpr ⟨h_inI 110 (by decide +kernel) rfl, List.forall_mem_cons.mpr ⟨h_inI 1279 (by decide +kernel) rfl, fun _ h => absurd h List.not_mem_nil⟩⟩⟩⟩, by decide, by decide, by decide +kernel⟩
def y_Model_limited : MethodName := ⟨R_Model, "limited", "(II)I"⟩
abbrev b_Model_limited : ByteArray := prog_12_method_23_code
theorem v_Model_limited : HStat y_Model_limited b_Model_limited 2 (some .int) 2 := ⟨List.forall_mem_cons.mpr ⟨h_inI 1299 (by decide +kernel) rfl, List.forall_mem_cons.mpr ⟨h_inI 110 (by decide +kernel) rfl, List.forall_mem_cons.mpr ⟨h_inI 1300 (by decide +kernel) rfl, fun _ h => absurd h List.not_mem_nil⟩⟩⟩, by decide, by decide, by decide +kernel⟩
def y_Model_unites : MethodName := ⟨R_Model, "unites", "(II)V"⟩
abbrev b_Model_unites : ByteArray := prog_12_method_24_code
theorem v_Model_unites : HVirt y_Model_unites b_Model_unites 6 none 2 := ⟨List.forall_mem_cons.mpr ⟨h_inI 1292 (by decide +kernel) rfl, List.forall_mem_cons.mpr ⟨h_inI 43 (by decide +kernel) rfl, List.forall_mem_cons.mpr ⟨h_inI 110 (by decide +kernel) rfl, List.forall_mem_cons.mpr ⟨h_inI 1293 (by decide +kernel) rfl, fun _ h => absurd h List.not_mem_nil⟩⟩⟩⟩, by decide, by decide, by decide +kernel⟩
def y_Model_factor : MethodName := ⟨R_Model, "factor", "(IIIZ)I"⟩
abbrev b_Model_factor : ByteArray := prog_12_method_25_code
theorem v_Model_factor : HVirt y_Model_factor b_Model_factor 5 (some .int) 4 := ⟨List.forall_mem_cons.mpr ⟨h_inI 1303 (by decide +kernel) rfl, List.forall_mem_cons.mpr ⟨h_inI 45 (by decide +kernel) rfl, List.forall_mem_cons.mpr ⟨h_inI 110 (by decide +kernel) rfl, List.forall_mem_cons.mpr ⟨h_inI 1304 (by decide +kernel) rfl, fun _ h => absurd h List.not_mem_nil⟩⟩⟩⟩, by decide, by decide, by decide +kernel⟩
def y_Model_multiplies : MethodName := ⟨R_Model, "multiplies", "(IIZ)V"⟩
abbrev b_Model_multiplies : ByteArray := prog_12_method_26_code
theorem v_Model_multiplies : HVirt y_Model_multiplies b_Model_multiplies 7 none 3 := ⟨List.forall_mem_cons.mpr ⟨h_inI 1296 (by decide +kernel) rfl, List.forall_mem_cons.mpr ⟨h_inI 44 (by decide +kernel) rfl, List.forall_mem_cons.mpr ⟨h_inI 110 (by decide +kernel) rfl, List.forall_mem_cons.mpr ⟨h_inI 1297 (by decide +kernel) rfl, fun _ h => absurd h List.not_mem_nil⟩⟩⟩⟩, by decide, by decide, by decide +kernel⟩
def y_Model_combine : MethodName := ⟨R_Model, "combine", "(IIII)I"⟩
abbrev b_Model_combine : ByteArray := prog_12_method_27_code
theorem v_Model_combine : HVirt y_Model_combine b_Model_combine 5 (some .int) 4 := ⟨List.forall_mem_cons.mpr ⟨h_inI 1287 (by decide +kernel) rfl, List.forall_mem_cons.mpr ⟨h_inI 1288 (by decide +kernel) rfl, List.forall_mem_cons.mpr ⟨h_inI 110 (by decide +kernel) rfl, List.forall_mem_cons.mpr ⟨h_inI 1289 (by decide +kernel) rfl, fun _ h => absurd h List.not_mem_nil⟩⟩⟩⟩, by decide, by decide, by decide +kernel⟩
def y_Model_induces : MethodName := ⟨R_Model, "induces", "(III)V"⟩
abbrev b_Model_induces : ByteArray := prog_12_method_28_code
theorem v_Model_induces : HVirt y_Model_induces b_Model_induces 9 none 3 := ⟨List.forall_mem_cons.mpr ⟨h_inI 1319 (by decide +kernel) rfl, List.forall_mem_cons.mpr ⟨h_inI 48 (by decide +kernel) rfl, List.forall_mem_cons.mpr ⟨h_inI 110 (by decide +kernel) rfl, List.forall_mem_cons.mpr ⟨h_inI 1320 (by decide +kernel) rfl, fun _ h => absurd h List.not_mem_nil⟩⟩⟩⟩, by decide, by decide, by decide +kernel⟩
theorem wf_Model_63 : Cond.fieldLink R_Model 63 (F_Model 5).1 (F_Model 5).2.1 (F_Model 5).2.2.1 ∈ h_tb := h_inI 1132 (by decide +kernel) rfl
theorem wm_Model_67 : Cond.methodLink R_Model 67 y_Model_in ∈ h_tb := h_inI 1218 (by decide +kernel) rfl
theorem wf_Model_7 : Cond.fieldLink R_Model 7 (F_Model 0).1 (F_Model 0).2.1 (F_Model 0).2.2.1 ∈ h_tb := h_inI 1127 (by decide +kernel) rfl
theorem wm_Model_71 : Cond.methodLink R_Model 71 y_Model_isGraph ∈ h_tb := h_inI 1215 (by decide +kernel) rfl
theorem wm_Model_75 : Cond.methodLink R_Model 75 y_Model_size ∈ h_tb := h_inI 1225 (by decide +kernel) rfl
theorem wm_Model_79 : Cond.methodLink R_Model 79 y_Model_between ∈ h_tb := h_inI 1261 (by decide +kernel) rfl
theorem wf_Model_13 : Cond.fieldLink R_Model 13 (F_Model 1).1 (F_Model 1).2.1 (F_Model 1).2.2.1 ∈ h_tb := h_inI 1128 (by decide +kernel) rfl
theorem wf_Model_83 : Cond.fieldLink R_Model 83 (F_Model 2).1 (F_Model 2).2.1 (F_Model 2).2.2.1 ∈ h_tb := h_inI 1129 (by decide +kernel) rfl
theorem wm_Model_86 : Cond.methodLink R_Model 86 y_Model_save ∈ h_tb := h_inI 1237 (by decide +kernel) rfl
theorem wm_Model_89 : Cond.methodLink R_Model 89 y_Model_copies ∈ h_tb := h_inI 1241 (by decide +kernel) rfl
theorem wm_Model_93 : Cond.methodLink R_Model 93 y_Model_fails ∈ h_tb := h_inI 1221 (by decide +kernel) rfl
theorem wm_Model_96 : Cond.methodLink R_Model 96 y_Model_begins ∈ h_tb := h_inI 1229 (by decide +kernel) rfl
theorem wm_Model_99 : Cond.methodLink R_Model 99 y_Model_keeps ∈ h_tb := h_inI 1233 (by decide +kernel) rfl
theorem wm_Model_103 : Cond.methodLink R_Model 103 y_Model_isVertex ∈ h_tb := h_inI 1249 (by decide +kernel) rfl
theorem wm_Model_107 : Cond.methodLink R_Model 107 y_Model_weight ∈ h_tb := h_inI 1253 (by decide +kernel) rfl
theorem wm_Model_111 : Cond.methodLink R_Model 111 y_Model_puts ∈ h_tb := h_inI 1265 (by decide +kernel) rfl
theorem wm_Model_115 : Cond.methodLink R_Model 115 y_Model_isOf ∈ h_tb := h_inI 1273 (by decide +kernel) rfl
theorem wc_Model_119 : Cond.constant R_Model 119 999999 ∈ h_tb := h_inI 1280 (by decide +kernel) rfl
theorem wc_Model_120 : Cond.constantLong R_Model 120 1103515245 ∈ h_tb := h_inI 1281 (by decide +kernel) rfl
theorem wc_Model_122 : Cond.constantLong R_Model 122 12345 ∈ h_tb := h_inI 1282 (by decide +kernel) rfl
theorem wc_Model_124 : Cond.constantLong R_Model 124 2147483648 ∈ h_tb := h_inI 1283 (by decide +kernel) rfl
theorem wc_Model_126 : Cond.constantLong R_Model 126 65536 ∈ h_tb := h_inI 1284 (by decide +kernel) rfl
theorem wc_Model_128 : Cond.constantLong R_Model 128 100 ∈ h_tb := h_inI 1285 (by decide +kernel) rfl
theorem wm_Model_130 : Cond.methodLink R_Model 130 y_Model_limited ∈ h_tb := h_inI 1298 (by decide +kernel) rfl
theorem wm_Model_133 : Cond.methodLink R_Model 133 y_Model_factor ∈ h_tb := h_inI 1301 (by decide +kernel) rfl
theorem wm_Model_137 : Cond.methodLink R_Model 137 y_Model_unites ∈ h_tb := h_inI 1290 (by decide +kernel) rfl
theorem wm_Model_140 : Cond.methodLink R_Model 140 y_Model_multiplies ∈ h_tb := h_inI 1294 (by decide +kernel) rfl
theorem d_Model_thrown_0 : decode b_Model_thrown 0 = .ok (.aload_n 0, 1) := by decide +kernel
theorem d_Model_thrown_1 : decode b_Model_thrown 1 = .ok (.getfield 63, 3) := by decide +kernel
theorem d_Model_thrown_4 : decode b_Model_thrown 4 = .ok (.ireturn, 1) := by decide +kernel
theorem d_Model_in_0 : decode b_Model_in 0 = .ok (.iload_n 0, 1) := by decide +kernel
theorem d_Model_in_1 : decode b_Model_in 1 = .ok (.iload_n 1, 1) := by decide +kernel
theorem d_Model_in_2 : decode b_Model_in 2 = .ok (.if_icmp .lt 12, 3) := by decide +kernel
theorem d_Model_in_5 : decode b_Model_in 5 = .ok (.iload_n 0, 1) := by decide +kernel
theorem d_Model_in_6 : decode b_Model_in 6 = .ok (.iload_n 2, 1) := by decide +kernel
theorem d_Model_in_7 : decode b_Model_in 7 = .ok (.if_icmp .gt 7, 3) := by decide +kernel
theorem d_Model_in_10 : decode b_Model_in 10 = .ok (.iconst 1, 1) := by decide +kernel
theorem d_Model_in_11 : decode b_Model_in 11 = .ok (.goto 4, 3) := by decide +kernel
theorem d_Model_in_14 : decode b_Model_in 14 = .ok (.iconst 0, 1) := by decide +kernel
theorem d_Model_in_15 : decode b_Model_in 15 = .ok (.ireturn, 1) := by decide +kernel
theorem d_Model_fails_0 : decode b_Model_fails 0 = .ok (.aload_n 0, 1) := by decide +kernel
theorem d_Model_fails_1 : decode b_Model_fails 1 = .ok (.iload_n 1, 1) := by decide +kernel
theorem d_Model_fails_2 : decode b_Model_fails 2 = .ok (.putfield 63, 3) := by decide +kernel
theorem d_Model_fails_5 : decode b_Model_fails 5 = .ok (.iconst 0, 1) := by decide +kernel
theorem d_Model_fails_6 : decode b_Model_fails 6 = .ok (.ireturn, 1) := by decide +kernel
theorem d_Model_tells_0 : decode b_Model_tells 0 = .ok (.aload_n 0, 1) := by decide +kernel
theorem d_Model_tells_1 : decode b_Model_tells 1 = .ok (.iconst 0, 1) := by decide +kernel
theorem d_Model_tells_2 : decode b_Model_tells 2 = .ok (.putfield 63, 3) := by decide +kernel
theorem d_Model_tells_5 : decode b_Model_tells 5 = .ok (.iload_n 1, 1) := by decide +kernel
theorem d_Model_tells_6 : decode b_Model_tells 6 = .ok (.ireturn, 1) := by decide +kernel
theorem d_Model_isGraph_0 : decode b_Model_isGraph 0 = .ok (.iload_n 0, 1) := by decide +kernel
theorem d_Model_isGraph_1 : decode b_Model_isGraph 1 = .ok (.iconst 0, 1) := by decide +kernel
theorem d_Model_isGraph_2 : decode b_Model_isGraph 2 = .ok (.iconst 3, 1) := by decide +kernel
theorem d_Model_isGraph_3 : decode b_Model_isGraph 3 = .ok (.invokestatic 67, 3) := by decide +kernel
theorem d_Model_isGraph_6 : decode b_Model_isGraph 6 = .ok (.ireturn, 1) := by decide +kernel
theorem d_Model_size_0 : decode b_Model_size 0 = .ok (.aload_n 0, 1) := by decide +kernel
theorem d_Model_size_1 : decode b_Model_size 1 = .ok (.getfield 7, 3) := by decide +kernel
theorem d_Model_size_4 : decode b_Model_size 4 = .ok (.bipush 73, 2) := by decide +kernel
theorem d_Model_size_6 : decode b_Model_size 6 = .ok (.iload_n 1, 1) := by decide +kernel
theorem d_Model_size_7 : decode b_Model_size 7 = .ok (.imul, 1) := by decide +kernel
theorem d_Model_size_8 : decode b_Model_size 8 = .ok (.iaload, 1) := by decide +kernel
theorem d_Model_size_9 : decode b_Model_size 9 = .ok (.ireturn, 1) := by decide +kernel
theorem d_Model_isVertex_0 : decode b_Model_isVertex 0 = .ok (.iload_n 1, 1) := by decide +kernel
theorem d_Model_isVertex_1 : decode b_Model_isVertex 1 = .ok (.invokestatic 71, 3) := by decide +kernel
theorem d_Model_isVertex_4 : decode b_Model_isVertex 4 = .ok (.ifCond .eq 22, 3) := by decide +kernel
theorem d_Model_isVertex_7 : decode b_Model_isVertex 7 = .ok (.iload_n 2, 1) := by decide +kernel
theorem d_Model_isVertex_8 : decode b_Model_isVertex 8 = .ok (.iconst 0, 1) := by decide +kernel
theorem d_Model_isVertex_9 : decode b_Model_isVertex 9 = .ok (.aload_n 0, 1) := by decide +kernel
theorem d_Model_isVertex_10 : decode b_Model_isVertex 10 = .ok (.iload_n 1, 1) := by decide +kernel
theorem d_Model_isVertex_11 : decode b_Model_isVertex 11 = .ok (.invokevirtual 75, 3) := by decide +kernel
theorem d_Model_isVertex_14 : decode b_Model_isVertex 14 = .ok (.iconst 1, 1) := by decide +kernel
theorem d_Model_isVertex_15 : decode b_Model_isVertex 15 = .ok (.isub, 1) := by decide +kernel
theorem d_Model_isVertex_16 : decode b_Model_isVertex 16 = .ok (.invokestatic 67, 3) := by decide +kernel
theorem d_Model_isVertex_19 : decode b_Model_isVertex 19 = .ok (.ifCond .eq 7, 3) := by decide +kernel
theorem d_Model_isVertex_22 : decode b_Model_isVertex 22 = .ok (.iconst 1, 1) := by decide +kernel
theorem d_Model_isVertex_23 : decode b_Model_isVertex 23 = .ok (.goto 4, 3) := by decide +kernel
theorem d_Model_isVertex_26 : decode b_Model_isVertex 26 = .ok (.iconst 0, 1) := by decide +kernel
theorem d_Model_isVertex_27 : decode b_Model_isVertex 27 = .ok (.ireturn, 1) := by decide +kernel
theorem d_Model_weight_0 : decode b_Model_weight 0 = .ok (.aload_n 0, 1) := by decide +kernel
theorem d_Model_weight_1 : decode b_Model_weight 1 = .ok (.getfield 7, 3) := by decide +kernel
theorem d_Model_weight_4 : decode b_Model_weight 4 = .ok (.bipush 73, 2) := by decide +kernel
theorem d_Model_weight_6 : decode b_Model_weight 6 = .ok (.iload_n 1, 1) := by decide +kernel
theorem d_Model_weight_7 : decode b_Model_weight 7 = .ok (.imul, 1) := by decide +kernel
theorem d_Model_weight_8 : decode b_Model_weight 8 = .ok (.iconst 1, 1) := by decide +kernel
theorem d_Model_weight_9 : decode b_Model_weight 9 = .ok (.iadd, 1) := by decide +kernel
theorem d_Model_weight_10 : decode b_Model_weight 10 = .ok (.iload_n 2, 1) := by decide +kernel
theorem d_Model_weight_11 : decode b_Model_weight 11 = .ok (.iadd, 1) := by decide +kernel
theorem d_Model_weight_12 : decode b_Model_weight 12 = .ok (.iaload, 1) := by decide +kernel
theorem d_Model_weight_13 : decode b_Model_weight 13 = .ok (.ireturn, 1) := by decide +kernel
theorem d_Model_between_0 : decode b_Model_between 0 = .ok (.aload_n 0, 1) := by decide +kernel
theorem d_Model_between_1 : decode b_Model_between 1 = .ok (.getfield 7, 3) := by decide +kernel
theorem d_Model_between_4 : decode b_Model_between 4 = .ok (.bipush 73, 2) := by decide +kernel
theorem d_Model_between_6 : decode b_Model_between 6 = .ok (.iload_n 1, 1) := by decide +kernel
theorem d_Model_between_7 : decode b_Model_between 7 = .ok (.imul, 1) := by decide +kernel
theorem d_Model_between_8 : decode b_Model_between 8 = .ok (.bipush 9, 2) := by decide +kernel
theorem d_Model_between_10 : decode b_Model_between 10 = .ok (.iadd, 1) := by decide +kernel
theorem d_Model_between_11 : decode b_Model_between 11 = .ok (.bipush 8, 2) := by decide +kernel
theorem d_Model_between_13 : decode b_Model_between 13 = .ok (.iload_n 2, 1) := by decide +kernel
theorem d_Model_between_14 : decode b_Model_between 14 = .ok (.imul, 1) := by decide +kernel
theorem d_Model_between_15 : decode b_Model_between 15 = .ok (.iadd, 1) := by decide +kernel
theorem d_Model_between_16 : decode b_Model_between 16 = .ok (.iload_n 3, 1) := by decide +kernel
theorem d_Model_between_17 : decode b_Model_between 17 = .ok (.iadd, 1) := by decide +kernel
theorem d_Model_between_18 : decode b_Model_between 18 = .ok (.iaload, 1) := by decide +kernel
theorem d_Model_between_19 : decode b_Model_between 19 = .ok (.ireturn, 1) := by decide +kernel
theorem d_Model_isNear_0 : decode b_Model_isNear 0 = .ok (.aload_n 0, 1) := by decide +kernel
theorem d_Model_isNear_1 : decode b_Model_isNear 1 = .ok (.iload_n 1, 1) := by decide +kernel
theorem d_Model_isNear_2 : decode b_Model_isNear 2 = .ok (.iload_n 2, 1) := by decide +kernel
theorem d_Model_isNear_3 : decode b_Model_isNear 3 = .ok (.iload_n 3, 1) := by decide +kernel
theorem d_Model_isNear_4 : decode b_Model_isNear 4 = .ok (.invokevirtual 79, 3) := by decide +kernel
theorem d_Model_isNear_7 : decode b_Model_isNear 7 = .ok (.ifCond .eq 7, 3) := by decide +kernel
theorem d_Model_isNear_10 : decode b_Model_isNear 10 = .ok (.iconst 1, 1) := by decide +kernel
theorem d_Model_isNear_11 : decode b_Model_isNear 11 = .ok (.goto 4, 3) := by decide +kernel
theorem d_Model_isNear_14 : decode b_Model_isNear 14 = .ok (.iconst 0, 1) := by decide +kernel
theorem d_Model_isNear_15 : decode b_Model_isNear 15 = .ok (.ireturn, 1) := by decide +kernel
theorem d_Model_puts_0 : decode b_Model_puts 0 = .ok (.aload_n 0, 1) := by decide +kernel
theorem d_Model_puts_1 : decode b_Model_puts 1 = .ok (.getfield 7, 3) := by decide +kernel
theorem d_Model_puts_4 : decode b_Model_puts 4 = .ok (.bipush 73, 2) := by decide +kernel
theorem d_Model_puts_6 : decode b_Model_puts 6 = .ok (.iload_n 1, 1) := by decide +kernel
theorem d_Model_puts_7 : decode b_Model_puts 7 = .ok (.imul, 1) := by decide +kernel
theorem d_Model_puts_8 : decode b_Model_puts 8 = .ok (.bipush 9, 2) := by decide +kernel
theorem d_Model_puts_10 : decode b_Model_puts 10 = .ok (.iadd, 1) := by decide +kernel
theorem d_Model_puts_11 : decode b_Model_puts 11 = .ok (.bipush 8, 2) := by decide +kernel
theorem d_Model_puts_13 : decode b_Model_puts 13 = .ok (.iload_n 2, 1) := by decide +kernel
theorem d_Model_puts_14 : decode b_Model_puts 14 = .ok (.imul, 1) := by decide +kernel
theorem d_Model_puts_15 : decode b_Model_puts 15 = .ok (.iadd, 1) := by decide +kernel
theorem d_Model_puts_16 : decode b_Model_puts 16 = .ok (.iload_n 3, 1) := by decide +kernel
theorem d_Model_puts_17 : decode b_Model_puts 17 = .ok (.iadd, 1) := by decide +kernel
theorem d_Model_puts_18 : decode b_Model_puts 18 = .ok (.iload 4, 2) := by decide +kernel
theorem d_Model_puts_20 : decode b_Model_puts 20 = .ok (.iastore, 1) := by decide +kernel
theorem d_Model_puts_21 : decode b_Model_puts 21 = .ok (.aload_n 0, 1) := by decide +kernel
theorem d_Model_puts_22 : decode b_Model_puts 22 = .ok (.getfield 7, 3) := by decide +kernel
theorem d_Model_puts_25 : decode b_Model_puts 25 = .ok (.bipush 73, 2) := by decide +kernel
theorem d_Model_puts_27 : decode b_Model_puts 27 = .ok (.iload_n 1, 1) := by decide +kernel
theorem d_Model_puts_28 : decode b_Model_puts 28 = .ok (.imul, 1) := by decide +kernel
theorem d_Model_puts_29 : decode b_Model_puts 29 = .ok (.bipush 9, 2) := by decide +kernel
theorem d_Model_puts_31 : decode b_Model_puts 31 = .ok (.iadd, 1) := by decide +kernel
theorem d_Model_puts_32 : decode b_Model_puts 32 = .ok (.bipush 8, 2) := by decide +kernel
theorem d_Model_puts_34 : decode b_Model_puts 34 = .ok (.iload_n 3, 1) := by decide +kernel
theorem d_Model_puts_35 : decode b_Model_puts 35 = .ok (.imul, 1) := by decide +kernel
theorem d_Model_puts_36 : decode b_Model_puts 36 = .ok (.iadd, 1) := by decide +kernel
theorem d_Model_puts_37 : decode b_Model_puts 37 = .ok (.iload_n 2, 1) := by decide +kernel
theorem d_Model_puts_38 : decode b_Model_puts 38 = .ok (.iadd, 1) := by decide +kernel
theorem d_Model_puts_39 : decode b_Model_puts 39 = .ok (.iload 4, 2) := by decide +kernel
theorem d_Model_puts_41 : decode b_Model_puts 41 = .ok (.iastore, 1) := by decide +kernel
theorem d_Model_puts_42 : decode b_Model_puts 42 = .ok (.return_, 1) := by decide +kernel
theorem d_Model_begins_0 : decode b_Model_begins 0 = .ok (.iconst 0, 1) := by decide +kernel
theorem d_Model_begins_1 : decode b_Model_begins 1 = .ok (.istore_n 3, 1) := by decide +kernel
theorem d_Model_begins_2 : decode b_Model_begins 2 = .ok (.iload_n 3, 1) := by decide +kernel
theorem d_Model_begins_3 : decode b_Model_begins 3 = .ok (.bipush 73, 2) := by decide +kernel
theorem d_Model_begins_5 : decode b_Model_begins 5 = .ok (.if_icmp .ge 34, 3) := by decide +kernel
theorem d_Model_begins_8 : decode b_Model_begins 8 = .ok (.aload_n 0, 1) := by decide +kernel
theorem d_Model_begins_9 : decode b_Model_begins 9 = .ok (.getfield 7, 3) := by decide +kernel
theorem d_Model_begins_12 : decode b_Model_begins 12 = .ok (.bipush 73, 2) := by decide +kernel
theorem d_Model_begins_14 : decode b_Model_begins 14 = .ok (.iload_n 1, 1) := by decide +kernel
theorem d_Model_begins_15 : decode b_Model_begins 15 = .ok (.imul, 1) := by decide +kernel
theorem d_Model_begins_16 : decode b_Model_begins 16 = .ok (.iload_n 3, 1) := by decide +kernel
theorem d_Model_begins_17 : decode b_Model_begins 17 = .ok (.iadd, 1) := by decide +kernel
theorem d_Model_begins_18 : decode b_Model_begins 18 = .ok (.iload_n 3, 1) := by decide +kernel
theorem d_Model_begins_19 : decode b_Model_begins 19 = .ok (.ifCond .le 12, 3) := by decide +kernel
theorem d_Model_begins_22 : decode b_Model_begins 22 = .ok (.iload_n 3, 1) := by decide +kernel
theorem d_Model_begins_23 : decode b_Model_begins 23 = .ok (.iload_n 2, 1) := by decide +kernel
theorem d_Model_begins_24 : decode b_Model_begins 24 = .ok (.if_icmp .gt 7, 3) := by decide +kernel
theorem d_Model_begins_27 : decode b_Model_begins 27 = .ok (.iconst 1, 1) := by decide +kernel
theorem d_Model_begins_28 : decode b_Model_begins 28 = .ok (.goto 4, 3) := by decide +kernel
theorem d_Model_begins_31 : decode b_Model_begins 31 = .ok (.iconst 0, 1) := by decide +kernel
theorem d_Model_begins_32 : decode b_Model_begins 32 = .ok (.iastore, 1) := by decide +kernel
theorem d_Model_begins_33 : decode b_Model_begins 33 = .ok (.iinc 3 1, 3) := by decide +kernel
theorem d_Model_begins_36 : decode b_Model_begins 36 = .ok (.goto (-34), 3) := by decide +kernel
theorem d_Model_begins_39 : decode b_Model_begins 39 = .ok (.aload_n 0, 1) := by decide +kernel
theorem d_Model_begins_40 : decode b_Model_begins 40 = .ok (.getfield 7, 3) := by decide +kernel
theorem d_Model_begins_43 : decode b_Model_begins 43 = .ok (.bipush 73, 2) := by decide +kernel
theorem d_Model_begins_45 : decode b_Model_begins 45 = .ok (.iload_n 1, 1) := by decide +kernel
theorem d_Model_begins_46 : decode b_Model_begins 46 = .ok (.imul, 1) := by decide +kernel
theorem d_Model_begins_47 : decode b_Model_begins 47 = .ok (.iload_n 2, 1) := by decide +kernel
theorem d_Model_begins_48 : decode b_Model_begins 48 = .ok (.iastore, 1) := by decide +kernel
theorem d_Model_begins_49 : decode b_Model_begins 49 = .ok (.return_, 1) := by decide +kernel
theorem d_Model_copies_0 : decode b_Model_copies 0 = .ok (.iconst 0, 1) := by decide +kernel
theorem d_Model_copies_1 : decode b_Model_copies 1 = .ok (.istore_n 3, 1) := by decide +kernel
theorem d_Model_copies_2 : decode b_Model_copies 2 = .ok (.iload_n 3, 1) := by decide +kernel
theorem d_Model_copies_3 : decode b_Model_copies 3 = .ok (.bipush 73, 2) := by decide +kernel
theorem d_Model_copies_5 : decode b_Model_copies 5 = .ok (.if_icmp .ge 31, 3) := by decide +kernel
theorem d_Model_copies_8 : decode b_Model_copies 8 = .ok (.aload_n 0, 1) := by decide +kernel
theorem d_Model_copies_9 : decode b_Model_copies 9 = .ok (.getfield 7, 3) := by decide +kernel
theorem d_Model_copies_12 : decode b_Model_copies 12 = .ok (.bipush 73, 2) := by decide +kernel
theorem d_Model_copies_14 : decode b_Model_copies 14 = .ok (.iload_n 2, 1) := by decide +kernel
theorem d_Model_copies_15 : decode b_Model_copies 15 = .ok (.imul, 1) := by decide +kernel
theorem d_Model_copies_16 : decode b_Model_copies 16 = .ok (.iload_n 3, 1) := by decide +kernel
theorem d_Model_copies_17 : decode b_Model_copies 17 = .ok (.iadd, 1) := by decide +kernel
theorem d_Model_copies_18 : decode b_Model_copies 18 = .ok (.aload_n 0, 1) := by decide +kernel
theorem d_Model_copies_19 : decode b_Model_copies 19 = .ok (.getfield 7, 3) := by decide +kernel
theorem d_Model_copies_22 : decode b_Model_copies 22 = .ok (.bipush 73, 2) := by decide +kernel
theorem d_Model_copies_24 : decode b_Model_copies 24 = .ok (.iload_n 1, 1) := by decide +kernel
theorem d_Model_copies_25 : decode b_Model_copies 25 = .ok (.imul, 1) := by decide +kernel
theorem d_Model_copies_26 : decode b_Model_copies 26 = .ok (.iload_n 3, 1) := by decide +kernel
theorem d_Model_copies_27 : decode b_Model_copies 27 = .ok (.iadd, 1) := by decide +kernel
theorem d_Model_copies_28 : decode b_Model_copies 28 = .ok (.iaload, 1) := by decide +kernel
theorem d_Model_copies_29 : decode b_Model_copies 29 = .ok (.iastore, 1) := by decide +kernel
theorem d_Model_copies_30 : decode b_Model_copies 30 = .ok (.iinc 3 1, 3) := by decide +kernel
theorem d_Model_copies_33 : decode b_Model_copies 33 = .ok (.goto (-31), 3) := by decide +kernel
theorem d_Model_copies_36 : decode b_Model_copies 36 = .ok (.return_, 1) := by decide +kernel
theorem d_Model_save_0 : decode b_Model_save 0 = .ok (.aload_n 0, 1) := by decide +kernel
theorem d_Model_save_1 : decode b_Model_save 1 = .ok (.iconst 0, 1) := by decide +kernel
theorem d_Model_save_2 : decode b_Model_save 2 = .ok (.putfield 63, 3) := by decide +kernel
theorem d_Model_save_5 : decode b_Model_save 5 = .ok (.aload_n 0, 1) := by decide +kernel
theorem d_Model_save_6 : decode b_Model_save 6 = .ok (.getfield 83, 3) := by decide +kernel
theorem d_Model_save_9 : decode b_Model_save 9 = .ok (.iconst 4, 1) := by decide +kernel
theorem d_Model_save_10 : decode b_Model_save 10 = .ok (.if_icmp .ne 44, 3) := by decide +kernel
theorem d_Model_save_13 : decode b_Model_save 13 = .ok (.iconst 0, 1) := by decide +kernel
theorem d_Model_save_14 : decode b_Model_save 14 = .ok (.istore_n 1, 1) := by decide +kernel
theorem d_Model_save_15 : decode b_Model_save 15 = .ok (.iload_n 1, 1) := by decide +kernel
theorem d_Model_save_16 : decode b_Model_save 16 = .ok (.sipush 876, 3) := by decide +kernel
theorem d_Model_save_19 : decode b_Model_save 19 = .ok (.if_icmp .ge 25, 3) := by decide +kernel
theorem d_Model_save_22 : decode b_Model_save 22 = .ok (.aload_n 0, 1) := by decide +kernel
theorem d_Model_save_23 : decode b_Model_save 23 = .ok (.getfield 13, 3) := by decide +kernel
theorem d_Model_save_26 : decode b_Model_save 26 = .ok (.iload_n 1, 1) := by decide +kernel
theorem d_Model_save_27 : decode b_Model_save 27 = .ok (.aload_n 0, 1) := by decide +kernel
theorem d_Model_save_28 : decode b_Model_save 28 = .ok (.getfield 13, 3) := by decide +kernel
theorem d_Model_save_31 : decode b_Model_save 31 = .ok (.iload_n 1, 1) := by decide +kernel
theorem d_Model_save_32 : decode b_Model_save 32 = .ok (.sipush 292, 3) := by decide +kernel
theorem d_Model_save_35 : decode b_Model_save 35 = .ok (.iadd, 1) := by decide +kernel
theorem d_Model_save_36 : decode b_Model_save 36 = .ok (.iaload, 1) := by decide +kernel
theorem d_Model_save_37 : decode b_Model_save 37 = .ok (.iastore, 1) := by decide +kernel
theorem d_Model_save_38 : decode b_Model_save 38 = .ok (.iinc 1 1, 3) := by decide +kernel
theorem d_Model_save_41 : decode b_Model_save 41 = .ok (.goto (-26), 3) := by decide +kernel
theorem d_Model_save_44 : decode b_Model_save 44 = .ok (.aload_n 0, 1) := by decide +kernel
theorem d_Model_save_45 : decode b_Model_save 45 = .ok (.dup, 1) := by decide +kernel
theorem d_Model_save_46 : decode b_Model_save 46 = .ok (.getfield 83, 3) := by decide +kernel
theorem d_Model_save_49 : decode b_Model_save 49 = .ok (.iconst 1, 1) := by decide +kernel
theorem d_Model_save_50 : decode b_Model_save 50 = .ok (.isub, 1) := by decide +kernel
theorem d_Model_save_51 : decode b_Model_save 51 = .ok (.putfield 83, 3) := by decide +kernel
theorem d_Model_save_54 : decode b_Model_save 54 = .ok (.iconst 0, 1) := by decide +kernel
theorem d_Model_save_55 : decode b_Model_save 55 = .ok (.istore_n 1, 1) := by decide +kernel
theorem d_Model_save_56 : decode b_Model_save 56 = .ok (.iload_n 1, 1) := by decide +kernel
theorem d_Model_save_57 : decode b_Model_save 57 = .ok (.sipush 292, 3) := by decide +kernel
theorem d_Model_save_60 : decode b_Model_save 60 = .ok (.if_icmp .ge 30, 3) := by decide +kernel
theorem d_Model_save_63 : decode b_Model_save 63 = .ok (.aload_n 0, 1) := by decide +kernel
theorem d_Model_save_64 : decode b_Model_save 64 = .ok (.getfield 13, 3) := by decide +kernel
theorem d_Model_save_67 : decode b_Model_save 67 = .ok (.sipush 292, 3) := by decide +kernel
theorem d_Model_save_70 : decode b_Model_save 70 = .ok (.aload_n 0, 1) := by decide +kernel
theorem d_Model_save_71 : decode b_Model_save 71 = .ok (.getfield 83, 3) := by decide +kernel
theorem d_Model_save_74 : decode b_Model_save 74 = .ok (.imul, 1) := by decide +kernel
theorem d_Model_save_75 : decode b_Model_save 75 = .ok (.iload_n 1, 1) := by decide +kernel
theorem d_Model_save_76 : decode b_Model_save 76 = .ok (.iadd, 1) := by decide +kernel
theorem d_Model_save_77 : decode b_Model_save 77 = .ok (.aload_n 0, 1) := by decide +kernel
theorem d_Model_save_78 : decode b_Model_save 78 = .ok (.getfield 7, 3) := by decide +kernel
theorem d_Model_save_81 : decode b_Model_save 81 = .ok (.iload_n 1, 1) := by decide +kernel
theorem d_Model_save_82 : decode b_Model_save 82 = .ok (.iaload, 1) := by decide +kernel
theorem d_Model_save_83 : decode b_Model_save 83 = .ok (.iastore, 1) := by decide +kernel
theorem d_Model_save_84 : decode b_Model_save 84 = .ok (.iinc 1 1, 3) := by decide +kernel
theorem d_Model_save_87 : decode b_Model_save 87 = .ok (.goto (-31), 3) := by decide +kernel
theorem d_Model_save_90 : decode b_Model_save 90 = .ok (.aload_n 0, 1) := by decide +kernel
theorem d_Model_save_91 : decode b_Model_save 91 = .ok (.dup, 1) := by decide +kernel
theorem d_Model_save_92 : decode b_Model_save 92 = .ok (.getfield 83, 3) := by decide +kernel
theorem d_Model_save_95 : decode b_Model_save 95 = .ok (.iconst 1, 1) := by decide +kernel
theorem d_Model_save_96 : decode b_Model_save 96 = .ok (.iadd, 1) := by decide +kernel
theorem d_Model_save_97 : decode b_Model_save 97 = .ok (.putfield 83, 3) := by decide +kernel
theorem d_Model_save_100 : decode b_Model_save 100 = .ok (.return_, 1) := by decide +kernel
theorem d_Model_keeps_0 : decode b_Model_keeps 0 = .ok (.aload_n 0, 1) := by decide +kernel
theorem d_Model_keeps_1 : decode b_Model_keeps 1 = .ok (.invokevirtual 86, 3) := by decide +kernel
theorem d_Model_keeps_4 : decode b_Model_keeps 4 = .ok (.aload_n 0, 1) := by decide +kernel
theorem d_Model_keeps_5 : decode b_Model_keeps 5 = .ok (.iconst 4, 1) := by decide +kernel
theorem d_Model_keeps_6 : decode b_Model_keeps 6 = .ok (.iload_n 1, 1) := by decide +kernel
theorem d_Model_keeps_7 : decode b_Model_keeps 7 = .ok (.invokevirtual 89, 3) := by decide +kernel
theorem d_Model_keeps_10 : decode b_Model_keeps 10 = .ok (.return_, 1) := by decide +kernel
theorem d_Model_setSize_0 : decode b_Model_setSize 0 = .ok (.iload_n 1, 1) := by decide +kernel
theorem d_Model_setSize_1 : decode b_Model_setSize 1 = .ok (.invokestatic 71, 3) := by decide +kernel
theorem d_Model_setSize_4 : decode b_Model_setSize 4 = .ok (.ifCond .ne 9, 3) := by decide +kernel
theorem d_Model_setSize_7 : decode b_Model_setSize 7 = .ok (.aload_n 0, 1) := by decide +kernel
theorem d_Model_setSize_8 : decode b_Model_setSize 8 = .ok (.iconst 1, 1) := by decide +kernel
theorem d_Model_setSize_9 : decode b_Model_setSize 9 = .ok (.invokevirtual 93, 3) := by decide +kernel
theorem d_Model_setSize_12 : decode b_Model_setSize 12 = .ok (.ireturn, 1) := by decide +kernel
theorem d_Model_setSize_13 : decode b_Model_setSize 13 = .ok (.iload_n 2, 1) := by decide +kernel
theorem d_Model_setSize_14 : decode b_Model_setSize 14 = .ok (.iconst 0, 1) := by decide +kernel
theorem d_Model_setSize_15 : decode b_Model_setSize 15 = .ok (.bipush 8, 2) := by decide +kernel
theorem d_Model_setSize_17 : decode b_Model_setSize 17 = .ok (.invokestatic 67, 3) := by decide +kernel
theorem d_Model_setSize_20 : decode b_Model_setSize 20 = .ok (.ifCond .ne 9, 3) := by decide +kernel
theorem d_Model_setSize_23 : decode b_Model_setSize 23 = .ok (.aload_n 0, 1) := by decide +kernel
theorem d_Model_setSize_24 : decode b_Model_setSize 24 = .ok (.iconst 2, 1) := by decide +kernel
theorem d_Model_setSize_25 : decode b_Model_setSize 25 = .ok (.invokevirtual 93, 3) := by decide +kernel
theorem d_Model_setSize_28 : decode b_Model_setSize 28 = .ok (.ireturn, 1) := by decide +kernel
theorem d_Model_setSize_29 : decode b_Model_setSize 29 = .ok (.aload_n 0, 1) := by decide +kernel
theorem d_Model_setSize_30 : decode b_Model_setSize 30 = .ok (.iload_n 1, 1) := by decide +kernel
theorem d_Model_setSize_31 : decode b_Model_setSize 31 = .ok (.invokevirtual 75, 3) := by decide +kernel
theorem d_Model_setSize_34 : decode b_Model_setSize 34 = .ok (.istore_n 3, 1) := by decide +kernel
theorem d_Model_setSize_35 : decode b_Model_setSize 35 = .ok (.aload_n 0, 1) := by decide +kernel
theorem d_Model_setSize_36 : decode b_Model_setSize 36 = .ok (.iconst 4, 1) := by decide +kernel
theorem d_Model_setSize_37 : decode b_Model_setSize 37 = .ok (.iload_n 2, 1) := by decide +kernel
theorem d_Model_setSize_38 : decode b_Model_setSize 38 = .ok (.invokevirtual 96, 3) := by decide +kernel
theorem d_Model_setSize_41 : decode b_Model_setSize 41 = .ok (.aload_n 0, 1) := by decide +kernel
theorem d_Model_setSize_42 : decode b_Model_setSize 42 = .ok (.iload_n 1, 1) := by decide +kernel
theorem d_Model_setSize_43 : decode b_Model_setSize 43 = .ok (.invokevirtual 99, 3) := by decide +kernel
theorem d_Model_setSize_46 : decode b_Model_setSize 46 = .ok (.iload_n 3, 1) := by decide +kernel
theorem d_Model_setSize_47 : decode b_Model_setSize 47 = .ok (.ireturn, 1) := by decide +kernel
theorem d_Model_setVertex_0 : decode b_Model_setVertex 0 = .ok (.aload_n 0, 1) := by decide +kernel
theorem d_Model_setVertex_1 : decode b_Model_setVertex 1 = .ok (.iload_n 1, 1) := by decide +kernel
theorem d_Model_setVertex_2 : decode b_Model_setVertex 2 = .ok (.iload_n 2, 1) := by decide +kernel
theorem d_Model_setVertex_3 : decode b_Model_setVertex 3 = .ok (.invokevirtual 103, 3) := by decide +kernel
theorem d_Model_setVertex_6 : decode b_Model_setVertex 6 = .ok (.ifCond .ne 9, 3) := by decide +kernel
theorem d_Model_setVertex_9 : decode b_Model_setVertex 9 = .ok (.aload_n 0, 1) := by decide +kernel
theorem d_Model_setVertex_10 : decode b_Model_setVertex 10 = .ok (.iconst 1, 1) := by decide +kernel
theorem d_Model_setVertex_11 : decode b_Model_setVertex 11 = .ok (.invokevirtual 93, 3) := by decide +kernel
theorem d_Model_setVertex_14 : decode b_Model_setVertex 14 = .ok (.ireturn, 1) := by decide +kernel
theorem d_Model_setVertex_15 : decode b_Model_setVertex 15 = .ok (.iload_n 3, 1) := by decide +kernel
theorem d_Model_setVertex_16 : decode b_Model_setVertex 16 = .ok (.bipush (-3), 2) := by decide +kernel
theorem d_Model_setVertex_18 : decode b_Model_setVertex 18 = .ok (.iconst 3, 1) := by decide +kernel
theorem d_Model_setVertex_19 : decode b_Model_setVertex 19 = .ok (.invokestatic 67, 3) := by decide +kernel
theorem d_Model_setVertex_22 : decode b_Model_setVertex 22 = .ok (.ifCond .ne 9, 3) := by decide +kernel
theorem d_Model_setVertex_25 : decode b_Model_setVertex 25 = .ok (.aload_n 0, 1) := by decide +kernel
theorem d_Model_setVertex_26 : decode b_Model_setVertex 26 = .ok (.iconst 2, 1) := by decide +kernel
theorem d_Model_setVertex_27 : decode b_Model_setVertex 27 = .ok (.invokevirtual 93, 3) := by decide +kernel
theorem d_Model_setVertex_30 : decode b_Model_setVertex 30 = .ok (.ireturn, 1) := by decide +kernel
theorem d_Model_setVertex_31 : decode b_Model_setVertex 31 = .ok (.aload_n 0, 1) := by decide +kernel
theorem d_Model_setVertex_32 : decode b_Model_setVertex 32 = .ok (.invokevirtual 86, 3) := by decide +kernel
theorem d_Model_setVertex_35 : decode b_Model_setVertex 35 = .ok (.aload_n 0, 1) := by decide +kernel
theorem d_Model_setVertex_36 : decode b_Model_setVertex 36 = .ok (.iload_n 1, 1) := by decide +kernel
theorem d_Model_setVertex_37 : decode b_Model_setVertex 37 = .ok (.iload_n 2, 1) := by decide +kernel
theorem d_Model_setVertex_38 : decode b_Model_setVertex 38 = .ok (.invokevirtual 107, 3) := by decide +kernel
theorem d_Model_setVertex_41 : decode b_Model_setVertex 41 = .ok (.istore 4, 2) := by decide +kernel
theorem d_Model_setVertex_43 : decode b_Model_setVertex 43 = .ok (.aload_n 0, 1) := by decide +kernel
theorem d_Model_setVertex_44 : decode b_Model_setVertex 44 = .ok (.getfield 7, 3) := by decide +kernel
theorem d_Model_setVertex_47 : decode b_Model_setVertex 47 = .ok (.bipush 73, 2) := by decide +kernel
theorem d_Model_setVertex_49 : decode b_Model_setVertex 49 = .ok (.iload_n 1, 1) := by decide +kernel
theorem d_Model_setVertex_50 : decode b_Model_setVertex 50 = .ok (.imul, 1) := by decide +kernel
theorem d_Model_setVertex_51 : decode b_Model_setVertex 51 = .ok (.iconst 1, 1) := by decide +kernel
theorem d_Model_setVertex_52 : decode b_Model_setVertex 52 = .ok (.iadd, 1) := by decide +kernel
theorem d_Model_setVertex_53 : decode b_Model_setVertex 53 = .ok (.iload_n 2, 1) := by decide +kernel
theorem d_Model_setVertex_54 : decode b_Model_setVertex 54 = .ok (.iadd, 1) := by decide +kernel
theorem d_Model_setVertex_55 : decode b_Model_setVertex 55 = .ok (.iload_n 3, 1) := by decide +kernel
theorem d_Model_setVertex_56 : decode b_Model_setVertex 56 = .ok (.iastore, 1) := by decide +kernel
theorem d_Model_setVertex_57 : decode b_Model_setVertex 57 = .ok (.iload 4, 2) := by decide +kernel
theorem d_Model_setVertex_59 : decode b_Model_setVertex 59 = .ok (.ireturn, 1) := by decide +kernel
theorem d_Model_setEdge_0 : decode b_Model_setEdge 0 = .ok (.aload_n 0, 1) := by decide +kernel
theorem d_Model_setEdge_1 : decode b_Model_setEdge 1 = .ok (.iload_n 1, 1) := by decide +kernel
theorem d_Model_setEdge_2 : decode b_Model_setEdge 2 = .ok (.iload_n 2, 1) := by decide +kernel
theorem d_Model_setEdge_3 : decode b_Model_setEdge 3 = .ok (.invokevirtual 103, 3) := by decide +kernel
theorem d_Model_setEdge_6 : decode b_Model_setEdge 6 = .ok (.ifCond .eq 12, 3) := by decide +kernel
theorem d_Model_setEdge_9 : decode b_Model_setEdge 9 = .ok (.aload_n 0, 1) := by decide +kernel
theorem d_Model_setEdge_10 : decode b_Model_setEdge 10 = .ok (.iload_n 1, 1) := by decide +kernel
theorem d_Model_setEdge_11 : decode b_Model_setEdge 11 = .ok (.iload_n 3, 1) := by decide +kernel
theorem d_Model_setEdge_12 : decode b_Model_setEdge 12 = .ok (.invokevirtual 103, 3) := by decide +kernel
theorem d_Model_setEdge_15 : decode b_Model_setEdge 15 = .ok (.ifCond .ne 9, 3) := by decide +kernel
theorem d_Model_setEdge_18 : decode b_Model_setEdge 18 = .ok (.aload_n 0, 1) := by decide +kernel
theorem d_Model_setEdge_19 : decode b_Model_setEdge 19 = .ok (.iconst 1, 1) := by decide +kernel
theorem d_Model_setEdge_20 : decode b_Model_setEdge 20 = .ok (.invokevirtual 93, 3) := by decide +kernel
theorem d_Model_setEdge_23 : decode b_Model_setEdge 23 = .ok (.ireturn, 1) := by decide +kernel
theorem d_Model_setEdge_24 : decode b_Model_setEdge 24 = .ok (.iload 4, 2) := by decide +kernel
theorem d_Model_setEdge_26 : decode b_Model_setEdge 26 = .ok (.bipush (-2), 2) := by decide +kernel
theorem d_Model_setEdge_28 : decode b_Model_setEdge 28 = .ok (.iconst 2, 1) := by decide +kernel
theorem d_Model_setEdge_29 : decode b_Model_setEdge 29 = .ok (.invokestatic 67, 3) := by decide +kernel
theorem d_Model_setEdge_32 : decode b_Model_setEdge 32 = .ok (.ifCond .ne 9, 3) := by decide +kernel
theorem d_Model_setEdge_35 : decode b_Model_setEdge 35 = .ok (.aload_n 0, 1) := by decide +kernel
theorem d_Model_setEdge_36 : decode b_Model_setEdge 36 = .ok (.iconst 2, 1) := by decide +kernel
theorem d_Model_setEdge_37 : decode b_Model_setEdge 37 = .ok (.invokevirtual 93, 3) := by decide +kernel
theorem d_Model_setEdge_40 : decode b_Model_setEdge 40 = .ok (.ireturn, 1) := by decide +kernel
theorem d_Model_setEdge_41 : decode b_Model_setEdge 41 = .ok (.aload_n 0, 1) := by decide +kernel
theorem d_Model_setEdge_42 : decode b_Model_setEdge 42 = .ok (.invokevirtual 86, 3) := by decide +kernel
theorem d_Model_setEdge_45 : decode b_Model_setEdge 45 = .ok (.aload_n 0, 1) := by decide +kernel
theorem d_Model_setEdge_46 : decode b_Model_setEdge 46 = .ok (.iload_n 1, 1) := by decide +kernel
theorem d_Model_setEdge_47 : decode b_Model_setEdge 47 = .ok (.iload_n 2, 1) := by decide +kernel
theorem d_Model_setEdge_48 : decode b_Model_setEdge 48 = .ok (.iload_n 3, 1) := by decide +kernel
theorem d_Model_setEdge_49 : decode b_Model_setEdge 49 = .ok (.invokevirtual 79, 3) := by decide +kernel
theorem d_Model_setEdge_52 : decode b_Model_setEdge 52 = .ok (.istore 5, 2) := by decide +kernel
theorem d_Model_setEdge_54 : decode b_Model_setEdge 54 = .ok (.aload_n 0, 1) := by decide +kernel
theorem d_Model_setEdge_55 : decode b_Model_setEdge 55 = .ok (.iload_n 1, 1) := by decide +kernel
theorem d_Model_setEdge_56 : decode b_Model_setEdge 56 = .ok (.iload_n 2, 1) := by decide +kernel
theorem d_Model_setEdge_57 : decode b_Model_setEdge 57 = .ok (.iload_n 3, 1) := by decide +kernel
theorem d_Model_setEdge_58 : decode b_Model_setEdge 58 = .ok (.iload 4, 2) := by decide +kernel
theorem d_Model_setEdge_60 : decode b_Model_setEdge 60 = .ok (.invokevirtual 111, 3) := by decide +kernel
theorem d_Model_setEdge_63 : decode b_Model_setEdge 63 = .ok (.iload 5, 2) := by decide +kernel
theorem d_Model_setEdge_65 : decode b_Model_setEdge 65 = .ok (.ireturn, 1) := by decide +kernel
theorem d_Model_isOf_0 : decode b_Model_isOf 0 = .ok (.iload_n 0, 1) := by decide +kernel
theorem d_Model_isOf_1 : decode b_Model_isOf 1 = .ok (.tableswitch 98 0 3 #[31, 44, 73, 84], 31) := by decide +kernel
theorem d_Model_isOf_32 : decode b_Model_isOf 32 = .ok (.iload_n 3, 1) := by decide +kernel
theorem d_Model_isOf_33 : decode b_Model_isOf 33 = .ok (.iload_n 2, 1) := by decide +kernel
theorem d_Model_isOf_34 : decode b_Model_isOf 34 = .ok (.iconst 1, 1) := by decide +kernel
theorem d_Model_isOf_35 : decode b_Model_isOf 35 = .ok (.iadd, 1) := by decide +kernel
theorem d_Model_isOf_36 : decode b_Model_isOf 36 = .ok (.if_icmp .ne 7, 3) := by decide +kernel
theorem d_Model_isOf_39 : decode b_Model_isOf 39 = .ok (.iconst 1, 1) := by decide +kernel
theorem d_Model_isOf_40 : decode b_Model_isOf 40 = .ok (.goto 4, 3) := by decide +kernel
theorem d_Model_isOf_43 : decode b_Model_isOf 43 = .ok (.iconst 0, 1) := by decide +kernel
theorem d_Model_isOf_44 : decode b_Model_isOf 44 = .ok (.ireturn, 1) := by decide +kernel
theorem d_Model_isOf_45 : decode b_Model_isOf 45 = .ok (.iload_n 3, 1) := by decide +kernel
theorem d_Model_isOf_46 : decode b_Model_isOf 46 = .ok (.iload_n 2, 1) := by decide +kernel
theorem d_Model_isOf_47 : decode b_Model_isOf 47 = .ok (.iconst 1, 1) := by decide +kernel
theorem d_Model_isOf_48 : decode b_Model_isOf 48 = .ok (.iadd, 1) := by decide +kernel
theorem d_Model_isOf_49 : decode b_Model_isOf 49 = .ok (.if_icmp .eq 19, 3) := by decide +kernel
theorem d_Model_isOf_52 : decode b_Model_isOf 52 = .ok (.iload_n 1, 1) := by decide +kernel
theorem d_Model_isOf_53 : decode b_Model_isOf 53 = .ok (.iconst 2, 1) := by decide +kernel
theorem d_Model_isOf_54 : decode b_Model_isOf 54 = .ok (.if_icmp .le 18, 3) := by decide +kernel
theorem d_Model_isOf_57 : decode b_Model_isOf 57 = .ok (.iload_n 2, 1) := by decide +kernel
theorem d_Model_isOf_58 : decode b_Model_isOf 58 = .ok (.ifCond .ne 14, 3) := by decide +kernel
theorem d_Model_isOf_61 : decode b_Model_isOf 61 = .ok (.iload_n 3, 1) := by decide +kernel
theorem d_Model_isOf_62 : decode b_Model_isOf 62 = .ok (.iload_n 1, 1) := by decide +kernel
theorem d_Model_isOf_63 : decode b_Model_isOf 63 = .ok (.iconst 1, 1) := by decide +kernel
theorem d_Model_isOf_64 : decode b_Model_isOf 64 = .ok (.isub, 1) := by decide +kernel
theorem d_Model_isOf_65 : decode b_Model_isOf 65 = .ok (.if_icmp .ne 7, 3) := by decide +kernel
theorem d_Model_isOf_68 : decode b_Model_isOf 68 = .ok (.iconst 1, 1) := by decide +kernel
theorem d_Model_isOf_69 : decode b_Model_isOf 69 = .ok (.goto 4, 3) := by decide +kernel
theorem d_Model_isOf_72 : decode b_Model_isOf 72 = .ok (.iconst 0, 1) := by decide +kernel
theorem d_Model_isOf_73 : decode b_Model_isOf 73 = .ok (.ireturn, 1) := by decide +kernel
theorem d_Model_isOf_74 : decode b_Model_isOf 74 = .ok (.iload_n 2, 1) := by decide +kernel
theorem d_Model_isOf_75 : decode b_Model_isOf 75 = .ok (.iload_n 3, 1) := by decide +kernel
theorem d_Model_isOf_76 : decode b_Model_isOf 76 = .ok (.if_icmp .eq 7, 3) := by decide +kernel
theorem d_Model_isOf_79 : decode b_Model_isOf 79 = .ok (.iconst 1, 1) := by decide +kernel
theorem d_Model_isOf_80 : decode b_Model_isOf 80 = .ok (.goto 4, 3) := by decide +kernel
theorem d_Model_isOf_83 : decode b_Model_isOf 83 = .ok (.iconst 0, 1) := by decide +kernel
theorem d_Model_isOf_84 : decode b_Model_isOf 84 = .ok (.ireturn, 1) := by decide +kernel
theorem d_Model_isOf_85 : decode b_Model_isOf 85 = .ok (.iload_n 2, 1) := by decide +kernel
theorem d_Model_isOf_86 : decode b_Model_isOf 86 = .ok (.ifCond .ne 11, 3) := by decide +kernel
theorem d_Model_isOf_89 : decode b_Model_isOf 89 = .ok (.iload_n 3, 1) := by decide +kernel
theorem d_Model_isOf_90 : decode b_Model_isOf 90 = .ok (.ifCond .le 7, 3) := by decide +kernel
theorem d_Model_isOf_93 : decode b_Model_isOf 93 = .ok (.iconst 1, 1) := by decide +kernel
theorem d_Model_isOf_94 : decode b_Model_isOf 94 = .ok (.goto 4, 3) := by decide +kernel
theorem d_Model_isOf_97 : decode b_Model_isOf 97 = .ok (.iconst 0, 1) := by decide +kernel
theorem d_Model_isOf_98 : decode b_Model_isOf 98 = .ok (.ireturn, 1) := by decide +kernel
theorem d_Model_isOf_99 : decode b_Model_isOf 99 = .ok (.iconst 1, 1) := by decide +kernel
theorem d_Model_isOf_100 : decode b_Model_isOf 100 = .ok (.ireturn, 1) := by decide +kernel
theorem d_Model_make_0 : decode b_Model_make 0 = .ok (.iload_n 1, 1) := by decide +kernel
theorem d_Model_make_1 : decode b_Model_make 1 = .ok (.invokestatic 71, 3) := by decide +kernel
theorem d_Model_make_4 : decode b_Model_make 4 = .ok (.ifCond .ne 9, 3) := by decide +kernel
theorem d_Model_make_7 : decode b_Model_make 7 = .ok (.aload_n 0, 1) := by decide +kernel
theorem d_Model_make_8 : decode b_Model_make 8 = .ok (.iconst 1, 1) := by decide +kernel
theorem d_Model_make_9 : decode b_Model_make 9 = .ok (.invokevirtual 93, 3) := by decide +kernel
theorem d_Model_make_12 : decode b_Model_make 12 = .ok (.ireturn, 1) := by decide +kernel
theorem d_Model_make_13 : decode b_Model_make 13 = .ok (.iload_n 2, 1) := by decide +kernel
theorem d_Model_make_14 : decode b_Model_make 14 = .ok (.iconst 0, 1) := by decide +kernel
theorem d_Model_make_15 : decode b_Model_make 15 = .ok (.iconst 4, 1) := by decide +kernel
theorem d_Model_make_16 : decode b_Model_make 16 = .ok (.invokestatic 67, 3) := by decide +kernel
theorem d_Model_make_19 : decode b_Model_make 19 = .ok (.ifCond .eq 13, 3) := by decide +kernel
theorem d_Model_make_22 : decode b_Model_make 22 = .ok (.iload_n 3, 1) := by decide +kernel
theorem d_Model_make_23 : decode b_Model_make 23 = .ok (.iconst 0, 1) := by decide +kernel
theorem d_Model_make_24 : decode b_Model_make 24 = .ok (.bipush 8, 2) := by decide +kernel
theorem d_Model_make_26 : decode b_Model_make 26 = .ok (.invokestatic 67, 3) := by decide +kernel
theorem d_Model_make_29 : decode b_Model_make 29 = .ok (.ifCond .ne 9, 3) := by decide +kernel
theorem d_Model_make_32 : decode b_Model_make 32 = .ok (.aload_n 0, 1) := by decide +kernel
theorem d_Model_make_33 : decode b_Model_make 33 = .ok (.iconst 2, 1) := by decide +kernel
theorem d_Model_make_34 : decode b_Model_make 34 = .ok (.invokevirtual 93, 3) := by decide +kernel
theorem d_Model_make_37 : decode b_Model_make 37 = .ok (.ireturn, 1) := by decide +kernel
theorem d_Model_make_38 : decode b_Model_make 38 = .ok (.aload_n 0, 1) := by decide +kernel
theorem d_Model_make_39 : decode b_Model_make 39 = .ok (.iconst 4, 1) := by decide +kernel
theorem d_Model_make_40 : decode b_Model_make 40 = .ok (.iload_n 3, 1) := by decide +kernel
theorem d_Model_make_41 : decode b_Model_make 41 = .ok (.invokevirtual 96, 3) := by decide +kernel
theorem d_Model_make_44 : decode b_Model_make 44 = .ok (.iconst 0, 1) := by decide +kernel
theorem d_Model_make_45 : decode b_Model_make 45 = .ok (.istore 4, 2) := by decide +kernel
theorem d_Model_make_47 : decode b_Model_make 47 = .ok (.iconst 0, 1) := by decide +kernel
theorem d_Model_make_48 : decode b_Model_make 48 = .ok (.istore 5, 2) := by decide +kernel
theorem d_Model_make_50 : decode b_Model_make 50 = .ok (.iload 5, 2) := by decide +kernel
theorem d_Model_make_52 : decode b_Model_make 52 = .ok (.iload_n 3, 1) := by decide +kernel
theorem d_Model_make_53 : decode b_Model_make 53 = .ok (.if_icmp .ge 50, 3) := by decide +kernel
theorem d_Model_make_56 : decode b_Model_make 56 = .ok (.iload 5, 2) := by decide +kernel
theorem d_Model_make_58 : decode b_Model_make 58 = .ok (.istore 6, 2) := by decide +kernel
theorem d_Model_make_60 : decode b_Model_make 60 = .ok (.iload 6, 2) := by decide +kernel
theorem d_Model_make_62 : decode b_Model_make 62 = .ok (.iload_n 3, 1) := by decide +kernel
theorem d_Model_make_63 : decode b_Model_make 63 = .ok (.if_icmp .ge 34, 3) := by decide +kernel
theorem d_Model_make_66 : decode b_Model_make 66 = .ok (.iload_n 2, 1) := by decide +kernel
theorem d_Model_make_67 : decode b_Model_make 67 = .ok (.iload_n 3, 1) := by decide +kernel
theorem d_Model_make_68 : decode b_Model_make 68 = .ok (.iload 5, 2) := by decide +kernel
theorem d_Model_make_70 : decode b_Model_make 70 = .ok (.iload 6, 2) := by decide +kernel
theorem d_Model_make_72 : decode b_Model_make 72 = .ok (.invokestatic 115, 3) := by decide +kernel
theorem d_Model_make_75 : decode b_Model_make 75 = .ok (.ifCond .eq 16, 3) := by decide +kernel
theorem d_Model_make_78 : decode b_Model_make 78 = .ok (.aload_n 0, 1) := by decide +kernel
theorem d_Model_make_79 : decode b_Model_make 79 = .ok (.iconst 4, 1) := by decide +kernel
theorem d_Model_make_80 : decode b_Model_make 80 = .ok (.iload 5, 2) := by decide +kernel
theorem d_Model_make_82 : decode b_Model_make 82 = .ok (.iload 6, 2) := by decide +kernel
theorem d_Model_make_84 : decode b_Model_make 84 = .ok (.iconst 1, 1) := by decide +kernel
theorem d_Model_make_85 : decode b_Model_make 85 = .ok (.invokevirtual 111, 3) := by decide +kernel
theorem d_Model_make_88 : decode b_Model_make 88 = .ok (.iinc 4 1, 3) := by decide +kernel
theorem d_Model_make_91 : decode b_Model_make 91 = .ok (.iinc 6 1, 3) := by decide +kernel
theorem d_Model_make_94 : decode b_Model_make 94 = .ok (.goto (-34), 3) := by decide +kernel
theorem d_Model_make_97 : decode b_Model_make 97 = .ok (.iinc 5 1, 3) := by decide +kernel
theorem d_Model_make_100 : decode b_Model_make 100 = .ok (.goto (-50), 3) := by decide +kernel
theorem d_Model_make_103 : decode b_Model_make 103 = .ok (.aload_n 0, 1) := by decide +kernel
theorem d_Model_make_104 : decode b_Model_make 104 = .ok (.iload_n 1, 1) := by decide +kernel
theorem d_Model_make_105 : decode b_Model_make 105 = .ok (.invokevirtual 99, 3) := by decide +kernel
theorem d_Model_make_108 : decode b_Model_make 108 = .ok (.iload 4, 2) := by decide +kernel
theorem d_Model_make_110 : decode b_Model_make 110 = .ok (.ireturn, 1) := by decide +kernel
theorem d_Model_random_0 : decode b_Model_random 0 = .ok (.iload_n 1, 1) := by decide +kernel
theorem d_Model_random_1 : decode b_Model_random 1 = .ok (.invokestatic 71, 3) := by decide +kernel
theorem d_Model_random_4 : decode b_Model_random 4 = .ok (.ifCond .ne 9, 3) := by decide +kernel
theorem d_Model_random_7 : decode b_Model_random 7 = .ok (.aload_n 0, 1) := by decide +kernel
theorem d_Model_random_8 : decode b_Model_random 8 = .ok (.iconst 1, 1) := by decide +kernel
theorem d_Model_random_9 : decode b_Model_random 9 = .ok (.invokevirtual 93, 3) := by decide +kernel
theorem d_Model_random_12 : decode b_Model_random 12 = .ok (.ireturn, 1) := by decide +kernel
theorem d_Model_random_13 : decode b_Model_random 13 = .ok (.iload_n 2, 1) := by decide +kernel
theorem d_Model_random_14 : decode b_Model_random 14 = .ok (.iconst 0, 1) := by decide +kernel
theorem d_Model_random_15 : decode b_Model_random 15 = .ok (.bipush 8, 2) := by decide +kernel
theorem d_Model_random_17 : decode b_Model_random 17 = .ok (.invokestatic 67, 3) := by decide +kernel
theorem d_Model_random_20 : decode b_Model_random 20 = .ok (.ifCond .eq 24, 3) := by decide +kernel
theorem d_Model_random_23 : decode b_Model_random 23 = .ok (.iload_n 3, 1) := by decide +kernel
theorem d_Model_random_24 : decode b_Model_random 24 = .ok (.iconst 0, 1) := by decide +kernel
theorem d_Model_random_25 : decode b_Model_random 25 = .ok (.ldc 119, 2) := by decide +kernel
theorem d_Model_random_27 : decode b_Model_random 27 = .ok (.invokestatic 67, 3) := by decide +kernel
theorem d_Model_random_30 : decode b_Model_random 30 = .ok (.ifCond .eq 14, 3) := by decide +kernel
theorem d_Model_random_33 : decode b_Model_random 33 = .ok (.iload 4, 2) := by decide +kernel
theorem d_Model_random_35 : decode b_Model_random 35 = .ok (.iconst 0, 1) := by decide +kernel
theorem d_Model_random_36 : decode b_Model_random 36 = .ok (.bipush 100, 2) := by decide +kernel
theorem d_Model_random_38 : decode b_Model_random 38 = .ok (.invokestatic 67, 3) := by decide +kernel
theorem d_Model_random_41 : decode b_Model_random 41 = .ok (.ifCond .ne 9, 3) := by decide +kernel
theorem d_Model_random_44 : decode b_Model_random 44 = .ok (.aload_n 0, 1) := by decide +kernel
theorem d_Model_random_45 : decode b_Model_random 45 = .ok (.iconst 2, 1) := by decide +kernel
theorem d_Model_random_46 : decode b_Model_random 46 = .ok (.invokevirtual 93, 3) := by decide +kernel
theorem d_Model_random_49 : decode b_Model_random 49 = .ok (.ireturn, 1) := by decide +kernel
theorem d_Model_random_50 : decode b_Model_random 50 = .ok (.aload_n 0, 1) := by decide +kernel
theorem d_Model_random_51 : decode b_Model_random 51 = .ok (.iconst 4, 1) := by decide +kernel
theorem d_Model_random_52 : decode b_Model_random 52 = .ok (.iload_n 2, 1) := by decide +kernel
theorem d_Model_random_53 : decode b_Model_random 53 = .ok (.invokevirtual 96, 3) := by decide +kernel
theorem d_Model_random_56 : decode b_Model_random 56 = .ok (.iload_n 3, 1) := by decide +kernel
theorem d_Model_random_57 : decode b_Model_random 57 = .ok (.i2l, 1) := by decide +kernel
theorem d_Model_random_58 : decode b_Model_random 58 = .ok (.lstore 5, 2) := by decide +kernel
theorem d_Model_random_60 : decode b_Model_random 60 = .ok (.iconst 0, 1) := by decide +kernel
theorem d_Model_random_61 : decode b_Model_random 61 = .ok (.istore 7, 2) := by decide +kernel
theorem d_Model_random_63 : decode b_Model_random 63 = .ok (.iconst 0, 1) := by decide +kernel
theorem d_Model_random_64 : decode b_Model_random 64 = .ok (.istore 8, 2) := by decide +kernel
theorem d_Model_random_66 : decode b_Model_random 66 = .ok (.iload 8, 2) := by decide +kernel
theorem d_Model_random_68 : decode b_Model_random 68 = .ok (.iload_n 2, 1) := by decide +kernel
theorem d_Model_random_69 : decode b_Model_random 69 = .ok (.if_icmp .ge 71, 3) := by decide +kernel
theorem d_Model_random_72 : decode b_Model_random 72 = .ok (.iconst 0, 1) := by decide +kernel
theorem d_Model_random_73 : decode b_Model_random 73 = .ok (.istore 9, 2) := by decide +kernel
theorem d_Model_random_75 : decode b_Model_random 75 = .ok (.iload 9, 2) := by decide +kernel
theorem d_Model_random_77 : decode b_Model_random 77 = .ok (.iload 8, 2) := by decide +kernel
theorem d_Model_random_79 : decode b_Model_random 79 = .ok (.if_icmp .ge 55, 3) := by decide +kernel
theorem d_Model_random_82 : decode b_Model_random 82 = .ok (.ldc2_w 120, 3) := by decide +kernel
theorem d_Model_random_85 : decode b_Model_random 85 = .ok (.lload 5, 2) := by decide +kernel
theorem d_Model_random_87 : decode b_Model_random 87 = .ok (.lmul, 1) := by decide +kernel
theorem d_Model_random_88 : decode b_Model_random 88 = .ok (.ldc2_w 122, 3) := by decide +kernel
theorem d_Model_random_91 : decode b_Model_random 91 = .ok (.ladd, 1) := by decide +kernel
theorem d_Model_random_92 : decode b_Model_random 92 = .ok (.ldc2_w 124, 3) := by decide +kernel
theorem d_Model_random_95 : decode b_Model_random 95 = .ok (.lrem, 1) := by decide +kernel
theorem d_Model_random_96 : decode b_Model_random 96 = .ok (.lstore 5, 2) := by decide +kernel
theorem d_Model_random_98 : decode b_Model_random 98 = .ok (.lload 5, 2) := by decide +kernel
theorem d_Model_random_100 : decode b_Model_random 100 = .ok (.ldc2_w 126, 3) := by decide +kernel
theorem d_Model_random_103 : decode b_Model_random 103 = .ok (.ldiv, 1) := by decide +kernel
theorem d_Model_random_104 : decode b_Model_random 104 = .ok (.ldc2_w 128, 3) := by decide +kernel
theorem d_Model_random_107 : decode b_Model_random 107 = .ok (.lrem, 1) := by decide +kernel
theorem d_Model_random_108 : decode b_Model_random 108 = .ok (.iload 4, 2) := by decide +kernel
theorem d_Model_random_110 : decode b_Model_random 110 = .ok (.i2l, 1) := by decide +kernel
theorem d_Model_random_111 : decode b_Model_random 111 = .ok (.lcmp, 1) := by decide +kernel
theorem d_Model_random_112 : decode b_Model_random 112 = .ok (.ifCond .ge 16, 3) := by decide +kernel
theorem d_Model_random_115 : decode b_Model_random 115 = .ok (.aload_n 0, 1) := by decide +kernel
theorem d_Model_random_116 : decode b_Model_random 116 = .ok (.iconst 4, 1) := by decide +kernel
theorem d_Model_random_117 : decode b_Model_random 117 = .ok (.iload 8, 2) := by decide +kernel
theorem d_Model_random_119 : decode b_Model_random 119 = .ok (.iload 9, 2) := by decide +kernel
theorem d_Model_random_121 : decode b_Model_random 121 = .ok (.iconst 1, 1) := by decide +kernel
theorem d_Model_random_122 : decode b_Model_random 122 = .ok (.invokevirtual 111, 3) := by decide +kernel
theorem d_Model_random_125 : decode b_Model_random 125 = .ok (.iinc 7 1, 3) := by decide +kernel
theorem d_Model_random_128 : decode b_Model_random 128 = .ok (.iinc 9 1, 3) := by decide +kernel
theorem d_Model_random_131 : decode b_Model_random 131 = .ok (.goto (-56), 3) := by decide +kernel
theorem d_Model_random_134 : decode b_Model_random 134 = .ok (.iinc 8 1, 3) := by decide +kernel
theorem d_Model_random_137 : decode b_Model_random 137 = .ok (.goto (-71), 3) := by decide +kernel
theorem d_Model_random_140 : decode b_Model_random 140 = .ok (.aload_n 0, 1) := by decide +kernel
theorem d_Model_random_141 : decode b_Model_random 141 = .ok (.iload_n 1, 1) := by decide +kernel
theorem d_Model_random_142 : decode b_Model_random 142 = .ok (.invokevirtual 99, 3) := by decide +kernel
theorem d_Model_random_145 : decode b_Model_random 145 = .ok (.iload 7, 2) := by decide +kernel
theorem d_Model_random_147 : decode b_Model_random 147 = .ok (.ireturn, 1) := by decide +kernel
theorem d_Model_limited_0 : decode b_Model_limited 0 = .ok (.iload_n 0, 1) := by decide +kernel
theorem d_Model_limited_1 : decode b_Model_limited 1 = .ok (.iload_n 1, 1) := by decide +kernel
theorem d_Model_limited_2 : decode b_Model_limited 2 = .ok (.if_icmp .le 7, 3) := by decide +kernel
theorem d_Model_limited_5 : decode b_Model_limited 5 = .ok (.iload_n 1, 1) := by decide +kernel
theorem d_Model_limited_6 : decode b_Model_limited 6 = .ok (.goto 15, 3) := by decide +kernel
theorem d_Model_limited_9 : decode b_Model_limited 9 = .ok (.iload_n 0, 1) := by decide +kernel
theorem d_Model_limited_10 : decode b_Model_limited 10 = .ok (.iload_n 1, 1) := by decide +kernel
theorem d_Model_limited_11 : decode b_Model_limited 11 = .ok (.ineg, 1) := by decide +kernel
theorem d_Model_limited_12 : decode b_Model_limited 12 = .ok (.if_icmp .ge 8, 3) := by decide +kernel
theorem d_Model_limited_15 : decode b_Model_limited 15 = .ok (.iload_n 1, 1) := by decide +kernel
theorem d_Model_limited_16 : decode b_Model_limited 16 = .ok (.ineg, 1) := by decide +kernel
theorem d_Model_limited_17 : decode b_Model_limited 17 = .ok (.goto 4, 3) := by decide +kernel
theorem d_Model_limited_20 : decode b_Model_limited 20 = .ok (.iload_n 0, 1) := by decide +kernel
theorem d_Model_limited_21 : decode b_Model_limited 21 = .ok (.ireturn, 1) := by decide +kernel
theorem d_Model_unites_0 : decode b_Model_unites 0 = .ok (.aload_n 0, 1) := by decide +kernel
theorem d_Model_unites_1 : decode b_Model_unites 1 = .ok (.iload_n 1, 1) := by decide +kernel
theorem d_Model_unites_2 : decode b_Model_unites 2 = .ok (.invokevirtual 75, 3) := by decide +kernel
theorem d_Model_unites_5 : decode b_Model_unites 5 = .ok (.istore_n 3, 1) := by decide +kernel
theorem d_Model_unites_6 : decode b_Model_unites 6 = .ok (.aload_n 0, 1) := by decide +kernel
theorem d_Model_unites_7 : decode b_Model_unites 7 = .ok (.iconst 4, 1) := by decide +kernel
theorem d_Model_unites_8 : decode b_Model_unites 8 = .ok (.iload_n 3, 1) := by decide +kernel
theorem d_Model_unites_9 : decode b_Model_unites 9 = .ok (.aload_n 0, 1) := by decide +kernel
theorem d_Model_unites_10 : decode b_Model_unites 10 = .ok (.iload_n 2, 1) := by decide +kernel
theorem d_Model_unites_11 : decode b_Model_unites 11 = .ok (.invokevirtual 75, 3) := by decide +kernel
theorem d_Model_unites_14 : decode b_Model_unites 14 = .ok (.iadd, 1) := by decide +kernel
theorem d_Model_unites_15 : decode b_Model_unites 15 = .ok (.invokevirtual 96, 3) := by decide +kernel
theorem d_Model_unites_18 : decode b_Model_unites 18 = .ok (.iconst 0, 1) := by decide +kernel
theorem d_Model_unites_19 : decode b_Model_unites 19 = .ok (.istore 4, 2) := by decide +kernel
theorem d_Model_unites_21 : decode b_Model_unites 21 = .ok (.iload 4, 2) := by decide +kernel
theorem d_Model_unites_23 : decode b_Model_unites 23 = .ok (.aload_n 0, 1) := by decide +kernel
theorem d_Model_unites_24 : decode b_Model_unites 24 = .ok (.iconst 4, 1) := by decide +kernel
theorem d_Model_unites_25 : decode b_Model_unites 25 = .ok (.invokevirtual 75, 3) := by decide +kernel
theorem d_Model_unites_28 : decode b_Model_unites 28 = .ok (.if_icmp .ge 115, 3) := by decide +kernel
theorem d_Model_unites_31 : decode b_Model_unites 31 = .ok (.aload_n 0, 1) := by decide +kernel
theorem d_Model_unites_32 : decode b_Model_unites 32 = .ok (.getfield 7, 3) := by decide +kernel
theorem d_Model_unites_35 : decode b_Model_unites 35 = .ok (.sipush 293, 3) := by decide +kernel
theorem d_Model_unites_38 : decode b_Model_unites 38 = .ok (.iload 4, 2) := by decide +kernel
theorem d_Model_unites_40 : decode b_Model_unites 40 = .ok (.iadd, 1) := by decide +kernel
theorem d_Model_unites_41 : decode b_Model_unites 41 = .ok (.iload 4, 2) := by decide +kernel
theorem d_Model_unites_43 : decode b_Model_unites 43 = .ok (.iload_n 3, 1) := by decide +kernel
theorem d_Model_unites_44 : decode b_Model_unites 44 = .ok (.if_icmp .ge 13, 3) := by decide +kernel
theorem d_Model_unites_47 : decode b_Model_unites 47 = .ok (.aload_n 0, 1) := by decide +kernel
theorem d_Model_unites_48 : decode b_Model_unites 48 = .ok (.iload_n 1, 1) := by decide +kernel
theorem d_Model_unites_49 : decode b_Model_unites 49 = .ok (.iload 4, 2) := by decide +kernel
theorem d_Model_unites_51 : decode b_Model_unites 51 = .ok (.invokevirtual 107, 3) := by decide +kernel
theorem d_Model_unites_54 : decode b_Model_unites 54 = .ok (.goto 12, 3) := by decide +kernel
theorem d_Model_unites_57 : decode b_Model_unites 57 = .ok (.aload_n 0, 1) := by decide +kernel
theorem d_Model_unites_58 : decode b_Model_unites 58 = .ok (.iload_n 2, 1) := by decide +kernel
theorem d_Model_unites_59 : decode b_Model_unites 59 = .ok (.iload 4, 2) := by decide +kernel
theorem d_Model_unites_61 : decode b_Model_unites 61 = .ok (.iload_n 3, 1) := by decide +kernel
theorem d_Model_unites_62 : decode b_Model_unites 62 = .ok (.isub, 1) := by decide +kernel
theorem d_Model_unites_63 : decode b_Model_unites 63 = .ok (.invokevirtual 107, 3) := by decide +kernel
theorem d_Model_unites_66 : decode b_Model_unites 66 = .ok (.iastore, 1) := by decide +kernel
theorem d_Model_unites_67 : decode b_Model_unites 67 = .ok (.iload 4, 2) := by decide +kernel
theorem d_Model_unites_69 : decode b_Model_unites 69 = .ok (.istore 5, 2) := by decide +kernel
theorem d_Model_unites_71 : decode b_Model_unites 71 = .ok (.iload 5, 2) := by decide +kernel
theorem d_Model_unites_73 : decode b_Model_unites 73 = .ok (.aload_n 0, 1) := by decide +kernel
theorem d_Model_unites_74 : decode b_Model_unites 74 = .ok (.iconst 4, 1) := by decide +kernel
theorem d_Model_unites_75 : decode b_Model_unites 75 = .ok (.invokevirtual 75, 3) := by decide +kernel
theorem d_Model_unites_78 : decode b_Model_unites 78 = .ok (.if_icmp .ge 59, 3) := by decide +kernel
theorem d_Model_unites_81 : decode b_Model_unites 81 = .ok (.aload_n 0, 1) := by decide +kernel
theorem d_Model_unites_82 : decode b_Model_unites 82 = .ok (.iconst 4, 1) := by decide +kernel
theorem d_Model_unites_83 : decode b_Model_unites 83 = .ok (.iload 4, 2) := by decide +kernel
theorem d_Model_unites_85 : decode b_Model_unites 85 = .ok (.iload 5, 2) := by decide +kernel
theorem d_Model_unites_87 : decode b_Model_unites 87 = .ok (.iload 5, 2) := by decide +kernel
theorem d_Model_unites_89 : decode b_Model_unites 89 = .ok (.iload_n 3, 1) := by decide +kernel
theorem d_Model_unites_90 : decode b_Model_unites 90 = .ok (.if_icmp .ge 15, 3) := by decide +kernel
theorem d_Model_unites_93 : decode b_Model_unites 93 = .ok (.aload_n 0, 1) := by decide +kernel
theorem d_Model_unites_94 : decode b_Model_unites 94 = .ok (.iload_n 1, 1) := by decide +kernel
theorem d_Model_unites_95 : decode b_Model_unites 95 = .ok (.iload 4, 2) := by decide +kernel
theorem d_Model_unites_97 : decode b_Model_unites 97 = .ok (.iload 5, 2) := by decide +kernel
theorem d_Model_unites_99 : decode b_Model_unites 99 = .ok (.invokevirtual 79, 3) := by decide +kernel
theorem d_Model_unites_102 : decode b_Model_unites 102 = .ok (.goto 26, 3) := by decide +kernel
theorem d_Model_unites_105 : decode b_Model_unites 105 = .ok (.iload 4, 2) := by decide +kernel
theorem d_Model_unites_107 : decode b_Model_unites 107 = .ok (.iload_n 3, 1) := by decide +kernel
theorem d_Model_unites_108 : decode b_Model_unites 108 = .ok (.if_icmp .ge 7, 3) := by decide +kernel
theorem d_Model_unites_111 : decode b_Model_unites 111 = .ok (.iconst 0, 1) := by decide +kernel
theorem d_Model_unites_112 : decode b_Model_unites 112 = .ok (.goto 16, 3) := by decide +kernel
theorem d_Model_unites_115 : decode b_Model_unites 115 = .ok (.aload_n 0, 1) := by decide +kernel
theorem d_Model_unites_116 : decode b_Model_unites 116 = .ok (.iload_n 2, 1) := by decide +kernel
theorem d_Model_unites_117 : decode b_Model_unites 117 = .ok (.iload 4, 2) := by decide +kernel
theorem d_Model_unites_119 : decode b_Model_unites 119 = .ok (.iload_n 3, 1) := by decide +kernel
theorem d_Model_unites_120 : decode b_Model_unites 120 = .ok (.isub, 1) := by decide +kernel
theorem d_Model_unites_121 : decode b_Model_unites 121 = .ok (.iload 5, 2) := by decide +kernel
theorem d_Model_unites_123 : decode b_Model_unites 123 = .ok (.iload_n 3, 1) := by decide +kernel
theorem d_Model_unites_124 : decode b_Model_unites 124 = .ok (.isub, 1) := by decide +kernel
theorem d_Model_unites_125 : decode b_Model_unites 125 = .ok (.invokevirtual 79, 3) := by decide +kernel
theorem d_Model_unites_128 : decode b_Model_unites 128 = .ok (.invokevirtual 111, 3) := by decide +kernel
theorem d_Model_unites_131 : decode b_Model_unites 131 = .ok (.iinc 5 1, 3) := by decide +kernel
theorem d_Model_unites_134 : decode b_Model_unites 134 = .ok (.goto (-63), 3) := by decide +kernel
theorem d_Model_unites_137 : decode b_Model_unites 137 = .ok (.iinc 4 1, 3) := by decide +kernel
theorem d_Model_unites_140 : decode b_Model_unites 140 = .ok (.goto (-119), 3) := by decide +kernel
theorem d_Model_unites_143 : decode b_Model_unites 143 = .ok (.return_, 1) := by decide +kernel
theorem d_Model_factor_0 : decode b_Model_factor 0 = .ok (.iload 4, 2) := by decide +kernel
theorem d_Model_factor_2 : decode b_Model_factor 2 = .ok (.ifCond .eq 12, 3) := by decide +kernel
theorem d_Model_factor_5 : decode b_Model_factor 5 = .ok (.iload_n 2, 1) := by decide +kernel
theorem d_Model_factor_6 : decode b_Model_factor 6 = .ok (.iload_n 3, 1) := by decide +kernel
theorem d_Model_factor_7 : decode b_Model_factor 7 = .ok (.if_icmp .ne 7, 3) := by decide +kernel
theorem d_Model_factor_10 : decode b_Model_factor 10 = .ok (.iconst 1, 1) := by decide +kernel
theorem d_Model_factor_11 : decode b_Model_factor 11 = .ok (.goto 10, 3) := by decide +kernel
theorem d_Model_factor_14 : decode b_Model_factor 14 = .ok (.aload_n 0, 1) := by decide +kernel
theorem d_Model_factor_15 : decode b_Model_factor 15 = .ok (.iload_n 1, 1) := by decide +kernel
theorem d_Model_factor_16 : decode b_Model_factor 16 = .ok (.iload_n 2, 1) := by decide +kernel
theorem d_Model_factor_17 : decode b_Model_factor 17 = .ok (.iload_n 3, 1) := by decide +kernel
theorem d_Model_factor_18 : decode b_Model_factor 18 = .ok (.invokevirtual 79, 3) := by decide +kernel
theorem d_Model_factor_21 : decode b_Model_factor 21 = .ok (.ireturn, 1) := by decide +kernel
theorem d_Model_multiplies_0 : decode b_Model_multiplies 0 = .ok (.aload_n 0, 1) := by decide +kernel
theorem d_Model_multiplies_1 : decode b_Model_multiplies 1 = .ok (.iload_n 2, 1) := by decide +kernel
theorem d_Model_multiplies_2 : decode b_Model_multiplies 2 = .ok (.invokevirtual 75, 3) := by decide +kernel
theorem d_Model_multiplies_5 : decode b_Model_multiplies 5 = .ok (.istore 4, 2) := by decide +kernel
theorem d_Model_multiplies_7 : decode b_Model_multiplies 7 = .ok (.aload_n 0, 1) := by decide +kernel
theorem d_Model_multiplies_8 : decode b_Model_multiplies 8 = .ok (.iconst 4, 1) := by decide +kernel
theorem d_Model_multiplies_9 : decode b_Model_multiplies 9 = .ok (.aload_n 0, 1) := by decide +kernel
theorem d_Model_multiplies_10 : decode b_Model_multiplies 10 = .ok (.iload_n 1, 1) := by decide +kernel
theorem d_Model_multiplies_11 : decode b_Model_multiplies 11 = .ok (.invokevirtual 75, 3) := by decide +kernel
theorem d_Model_multiplies_14 : decode b_Model_multiplies 14 = .ok (.iload 4, 2) := by decide +kernel
theorem d_Model_multiplies_16 : decode b_Model_multiplies 16 = .ok (.imul, 1) := by decide +kernel
theorem d_Model_multiplies_17 : decode b_Model_multiplies 17 = .ok (.invokevirtual 96, 3) := by decide +kernel
theorem d_Model_multiplies_20 : decode b_Model_multiplies 20 = .ok (.iconst 0, 1) := by decide +kernel
theorem d_Model_multiplies_21 : decode b_Model_multiplies 21 = .ok (.istore 5, 2) := by decide +kernel
theorem d_Model_multiplies_23 : decode b_Model_multiplies 23 = .ok (.iload 5, 2) := by decide +kernel
theorem d_Model_multiplies_25 : decode b_Model_multiplies 25 = .ok (.aload_n 0, 1) := by decide +kernel
theorem d_Model_multiplies_26 : decode b_Model_multiplies 26 = .ok (.iconst 4, 1) := by decide +kernel
theorem d_Model_multiplies_27 : decode b_Model_multiplies 27 = .ok (.invokevirtual 75, 3) := by decide +kernel
theorem d_Model_multiplies_30 : decode b_Model_multiplies 30 = .ok (.if_icmp .ge 111, 3) := by decide +kernel
theorem d_Model_multiplies_33 : decode b_Model_multiplies 33 = .ok (.aload_n 0, 1) := by decide +kernel
theorem d_Model_multiplies_34 : decode b_Model_multiplies 34 = .ok (.getfield 7, 3) := by decide +kernel
theorem d_Model_multiplies_37 : decode b_Model_multiplies 37 = .ok (.sipush 293, 3) := by decide +kernel
theorem d_Model_multiplies_40 : decode b_Model_multiplies 40 = .ok (.iload 5, 2) := by decide +kernel
theorem d_Model_multiplies_42 : decode b_Model_multiplies 42 = .ok (.iadd, 1) := by decide +kernel
theorem d_Model_multiplies_43 : decode b_Model_multiplies 43 = .ok (.aload_n 0, 1) := by decide +kernel
theorem d_Model_multiplies_44 : decode b_Model_multiplies 44 = .ok (.iload_n 1, 1) := by decide +kernel
theorem d_Model_multiplies_45 : decode b_Model_multiplies 45 = .ok (.iload 5, 2) := by decide +kernel
theorem d_Model_multiplies_47 : decode b_Model_multiplies 47 = .ok (.iload 4, 2) := by decide +kernel
theorem d_Model_multiplies_49 : decode b_Model_multiplies 49 = .ok (.idiv, 1) := by decide +kernel
theorem d_Model_multiplies_50 : decode b_Model_multiplies 50 = .ok (.invokevirtual 107, 3) := by decide +kernel
theorem d_Model_multiplies_53 : decode b_Model_multiplies 53 = .ok (.aload_n 0, 1) := by decide +kernel
theorem d_Model_multiplies_54 : decode b_Model_multiplies 54 = .ok (.iload_n 2, 1) := by decide +kernel
theorem d_Model_multiplies_55 : decode b_Model_multiplies 55 = .ok (.iload 5, 2) := by decide +kernel
theorem d_Model_multiplies_57 : decode b_Model_multiplies 57 = .ok (.iload 4, 2) := by decide +kernel
theorem d_Model_multiplies_59 : decode b_Model_multiplies 59 = .ok (.irem, 1) := by decide +kernel
theorem d_Model_multiplies_60 : decode b_Model_multiplies 60 = .ok (.invokevirtual 107, 3) := by decide +kernel
theorem d_Model_multiplies_63 : decode b_Model_multiplies 63 = .ok (.imul, 1) := by decide +kernel
theorem d_Model_multiplies_64 : decode b_Model_multiplies 64 = .ok (.iconst 3, 1) := by decide +kernel
theorem d_Model_multiplies_65 : decode b_Model_multiplies 65 = .ok (.invokestatic 130, 3) := by decide +kernel
theorem d_Model_multiplies_68 : decode b_Model_multiplies 68 = .ok (.iastore, 1) := by decide +kernel
theorem d_Model_multiplies_69 : decode b_Model_multiplies 69 = .ok (.iload 5, 2) := by decide +kernel
theorem d_Model_multiplies_71 : decode b_Model_multiplies 71 = .ok (.istore 6, 2) := by decide +kernel
theorem d_Model_multiplies_73 : decode b_Model_multiplies 73 = .ok (.iload 6, 2) := by decide +kernel
theorem d_Model_multiplies_75 : decode b_Model_multiplies 75 = .ok (.aload_n 0, 1) := by decide +kernel
theorem d_Model_multiplies_76 : decode b_Model_multiplies 76 = .ok (.iconst 4, 1) := by decide +kernel
theorem d_Model_multiplies_77 : decode b_Model_multiplies 77 = .ok (.invokevirtual 75, 3) := by decide +kernel
theorem d_Model_multiplies_80 : decode b_Model_multiplies 80 = .ok (.if_icmp .ge 55, 3) := by decide +kernel
theorem d_Model_multiplies_83 : decode b_Model_multiplies 83 = .ok (.aload_n 0, 1) := by decide +kernel
theorem d_Model_multiplies_84 : decode b_Model_multiplies 84 = .ok (.iconst 4, 1) := by decide +kernel
theorem d_Model_multiplies_85 : decode b_Model_multiplies 85 = .ok (.iload 5, 2) := by decide +kernel
theorem d_Model_multiplies_87 : decode b_Model_multiplies 87 = .ok (.iload 6, 2) := by decide +kernel
theorem d_Model_multiplies_89 : decode b_Model_multiplies 89 = .ok (.aload_n 0, 1) := by decide +kernel
theorem d_Model_multiplies_90 : decode b_Model_multiplies 90 = .ok (.iload_n 1, 1) := by decide +kernel
theorem d_Model_multiplies_91 : decode b_Model_multiplies 91 = .ok (.iload 5, 2) := by decide +kernel
theorem d_Model_multiplies_93 : decode b_Model_multiplies 93 = .ok (.iload 4, 2) := by decide +kernel
theorem d_Model_multiplies_95 : decode b_Model_multiplies 95 = .ok (.idiv, 1) := by decide +kernel
theorem d_Model_multiplies_96 : decode b_Model_multiplies 96 = .ok (.iload 6, 2) := by decide +kernel
theorem d_Model_multiplies_98 : decode b_Model_multiplies 98 = .ok (.iload 4, 2) := by decide +kernel
theorem d_Model_multiplies_100 : decode b_Model_multiplies 100 = .ok (.idiv, 1) := by decide +kernel
theorem d_Model_multiplies_101 : decode b_Model_multiplies 101 = .ok (.iload_n 3, 1) := by decide +kernel
theorem d_Model_multiplies_102 : decode b_Model_multiplies 102 = .ok (.invokevirtual 133, 3) := by decide +kernel
theorem d_Model_multiplies_105 : decode b_Model_multiplies 105 = .ok (.aload_n 0, 1) := by decide +kernel
theorem d_Model_multiplies_106 : decode b_Model_multiplies 106 = .ok (.iload_n 2, 1) := by decide +kernel
theorem d_Model_multiplies_107 : decode b_Model_multiplies 107 = .ok (.iload 5, 2) := by decide +kernel
theorem d_Model_multiplies_109 : decode b_Model_multiplies 109 = .ok (.iload 4, 2) := by decide +kernel
theorem d_Model_multiplies_111 : decode b_Model_multiplies 111 = .ok (.irem, 1) := by decide +kernel
theorem d_Model_multiplies_112 : decode b_Model_multiplies 112 = .ok (.iload 6, 2) := by decide +kernel
theorem d_Model_multiplies_114 : decode b_Model_multiplies 114 = .ok (.iload 4, 2) := by decide +kernel
theorem d_Model_multiplies_116 : decode b_Model_multiplies 116 = .ok (.irem, 1) := by decide +kernel
theorem d_Model_multiplies_117 : decode b_Model_multiplies 117 = .ok (.iload_n 3, 1) := by decide +kernel
theorem d_Model_multiplies_118 : decode b_Model_multiplies 118 = .ok (.invokevirtual 133, 3) := by decide +kernel
theorem d_Model_multiplies_121 : decode b_Model_multiplies 121 = .ok (.imul, 1) := by decide +kernel
theorem d_Model_multiplies_122 : decode b_Model_multiplies 122 = .ok (.iconst 2, 1) := by decide +kernel
theorem d_Model_multiplies_123 : decode b_Model_multiplies 123 = .ok (.invokestatic 130, 3) := by decide +kernel
theorem d_Model_multiplies_126 : decode b_Model_multiplies 126 = .ok (.invokevirtual 111, 3) := by decide +kernel
theorem d_Model_multiplies_129 : decode b_Model_multiplies 129 = .ok (.iinc 6 1, 3) := by decide +kernel
theorem d_Model_multiplies_132 : decode b_Model_multiplies 132 = .ok (.goto (-59), 3) := by decide +kernel
theorem d_Model_multiplies_135 : decode b_Model_multiplies 135 = .ok (.iinc 5 1, 3) := by decide +kernel
theorem d_Model_multiplies_138 : decode b_Model_multiplies 138 = .ok (.goto (-115), 3) := by decide +kernel
theorem d_Model_multiplies_141 : decode b_Model_multiplies 141 = .ok (.return_, 1) := by decide +kernel
theorem d_Model_combine_0 : decode b_Model_combine 0 = .ok (.iload_n 1, 1) := by decide +kernel
theorem d_Model_combine_1 : decode b_Model_combine 1 = .ok (.invokestatic 71, 3) := by decide +kernel
theorem d_Model_combine_4 : decode b_Model_combine 4 = .ok (.ifCond .eq 17, 3) := by decide +kernel
theorem d_Model_combine_7 : decode b_Model_combine 7 = .ok (.iload_n 2, 1) := by decide +kernel
theorem d_Model_combine_8 : decode b_Model_combine 8 = .ok (.invokestatic 71, 3) := by decide +kernel
theorem d_Model_combine_11 : decode b_Model_combine 11 = .ok (.ifCond .eq 10, 3) := by decide +kernel
theorem d_Model_combine_14 : decode b_Model_combine 14 = .ok (.iload_n 3, 1) := by decide +kernel
theorem d_Model_combine_15 : decode b_Model_combine 15 = .ok (.invokestatic 71, 3) := by decide +kernel
theorem d_Model_combine_18 : decode b_Model_combine 18 = .ok (.ifCond .ne 9, 3) := by decide +kernel
theorem d_Model_combine_21 : decode b_Model_combine 21 = .ok (.aload_n 0, 1) := by decide +kernel
theorem d_Model_combine_22 : decode b_Model_combine 22 = .ok (.iconst 1, 1) := by decide +kernel
theorem d_Model_combine_23 : decode b_Model_combine 23 = .ok (.invokevirtual 93, 3) := by decide +kernel
theorem d_Model_combine_26 : decode b_Model_combine 26 = .ok (.ireturn, 1) := by decide +kernel
theorem d_Model_combine_27 : decode b_Model_combine 27 = .ok (.iload 4, 2) := by decide +kernel
theorem d_Model_combine_29 : decode b_Model_combine 29 = .ok (.iconst 0, 1) := by decide +kernel
theorem d_Model_combine_30 : decode b_Model_combine 30 = .ok (.iconst 2, 1) := by decide +kernel
theorem d_Model_combine_31 : decode b_Model_combine 31 = .ok (.invokestatic 67, 3) := by decide +kernel
theorem d_Model_combine_34 : decode b_Model_combine 34 = .ok (.ifCond .ne 9, 3) := by decide +kernel
theorem d_Model_combine_37 : decode b_Model_combine 37 = .ok (.aload_n 0, 1) := by decide +kernel
theorem d_Model_combine_38 : decode b_Model_combine 38 = .ok (.iconst 2, 1) := by decide +kernel
theorem d_Model_combine_39 : decode b_Model_combine 39 = .ok (.invokevirtual 93, 3) := by decide +kernel
theorem d_Model_combine_42 : decode b_Model_combine 42 = .ok (.ireturn, 1) := by decide +kernel
theorem d_Model_combine_43 : decode b_Model_combine 43 = .ok (.iload 4, 2) := by decide +kernel
theorem d_Model_combine_45 : decode b_Model_combine 45 = .ok (.ifCond .ne 17, 3) := by decide +kernel
theorem d_Model_combine_48 : decode b_Model_combine 48 = .ok (.aload_n 0, 1) := by decide +kernel
theorem d_Model_combine_49 : decode b_Model_combine 49 = .ok (.iload_n 2, 1) := by decide +kernel
theorem d_Model_combine_50 : decode b_Model_combine 50 = .ok (.invokevirtual 75, 3) := by decide +kernel
theorem d_Model_combine_53 : decode b_Model_combine 53 = .ok (.aload_n 0, 1) := by decide +kernel
theorem d_Model_combine_54 : decode b_Model_combine 54 = .ok (.iload_n 3, 1) := by decide +kernel
theorem d_Model_combine_55 : decode b_Model_combine 55 = .ok (.invokevirtual 75, 3) := by decide +kernel
theorem d_Model_combine_58 : decode b_Model_combine 58 = .ok (.iadd, 1) := by decide +kernel
theorem d_Model_combine_59 : decode b_Model_combine 59 = .ok (.goto 14, 3) := by decide +kernel
theorem d_Model_combine_62 : decode b_Model_combine 62 = .ok (.aload_n 0, 1) := by decide +kernel
theorem d_Model_combine_63 : decode b_Model_combine 63 = .ok (.iload_n 2, 1) := by decide +kernel
theorem d_Model_combine_64 : decode b_Model_combine 64 = .ok (.invokevirtual 75, 3) := by decide +kernel
theorem d_Model_combine_67 : decode b_Model_combine 67 = .ok (.aload_n 0, 1) := by decide +kernel
theorem d_Model_combine_68 : decode b_Model_combine 68 = .ok (.iload_n 3, 1) := by decide +kernel
theorem d_Model_combine_69 : decode b_Model_combine 69 = .ok (.invokevirtual 75, 3) := by decide +kernel
theorem d_Model_combine_72 : decode b_Model_combine 72 = .ok (.imul, 1) := by decide +kernel
theorem d_Model_combine_73 : decode b_Model_combine 73 = .ok (.bipush 8, 2) := by decide +kernel
theorem d_Model_combine_75 : decode b_Model_combine 75 = .ok (.if_icmp .le 9, 3) := by decide +kernel
theorem d_Model_combine_78 : decode b_Model_combine 78 = .ok (.aload_n 0, 1) := by decide +kernel
theorem d_Model_combine_79 : decode b_Model_combine 79 = .ok (.iconst 3, 1) := by decide +kernel
theorem d_Model_combine_80 : decode b_Model_combine 80 = .ok (.invokevirtual 93, 3) := by decide +kernel
theorem d_Model_combine_83 : decode b_Model_combine 83 = .ok (.ireturn, 1) := by decide +kernel
theorem d_Model_combine_84 : decode b_Model_combine 84 = .ok (.iload 4, 2) := by decide +kernel
theorem d_Model_combine_86 : decode b_Model_combine 86 = .ok (.ifCond .ne 12, 3) := by decide +kernel
theorem d_Model_combine_89 : decode b_Model_combine 89 = .ok (.aload_n 0, 1) := by decide +kernel
theorem d_Model_combine_90 : decode b_Model_combine 90 = .ok (.iload_n 2, 1) := by decide +kernel
theorem d_Model_combine_91 : decode b_Model_combine 91 = .ok (.iload_n 3, 1) := by decide +kernel
theorem d_Model_combine_92 : decode b_Model_combine 92 = .ok (.invokevirtual 137, 3) := by decide +kernel
theorem d_Model_combine_95 : decode b_Model_combine 95 = .ok (.goto 20, 3) := by decide +kernel
theorem d_Model_combine_98 : decode b_Model_combine 98 = .ok (.aload_n 0, 1) := by decide +kernel
theorem d_Model_combine_99 : decode b_Model_combine 99 = .ok (.iload_n 2, 1) := by decide +kernel
theorem d_Model_combine_100 : decode b_Model_combine 100 = .ok (.iload_n 3, 1) := by decide +kernel
theorem d_Model_combine_101 : decode b_Model_combine 101 = .ok (.iload 4, 2) := by decide +kernel
theorem d_Model_combine_103 : decode b_Model_combine 103 = .ok (.iconst 2, 1) := by decide +kernel
theorem d_Model_combine_104 : decode b_Model_combine 104 = .ok (.if_icmp .ne 7, 3) := by decide +kernel
theorem d_Model_combine_107 : decode b_Model_combine 107 = .ok (.iconst 1, 1) := by decide +kernel
theorem d_Model_combine_108 : decode b_Model_combine 108 = .ok (.goto 4, 3) := by decide +kernel
theorem d_Model_combine_111 : decode b_Model_combine 111 = .ok (.iconst 0, 1) := by decide +kernel
theorem d_Model_combine_112 : decode b_Model_combine 112 = .ok (.invokevirtual 140, 3) := by decide +kernel
theorem d_Model_combine_115 : decode b_Model_combine 115 = .ok (.aload_n 0, 1) := by decide +kernel
theorem d_Model_combine_116 : decode b_Model_combine 116 = .ok (.iload_n 1, 1) := by decide +kernel
theorem d_Model_combine_117 : decode b_Model_combine 117 = .ok (.invokevirtual 99, 3) := by decide +kernel
theorem d_Model_combine_120 : decode b_Model_combine 120 = .ok (.aload_n 0, 1) := by decide +kernel
theorem d_Model_combine_121 : decode b_Model_combine 121 = .ok (.iload_n 1, 1) := by decide +kernel
theorem d_Model_combine_122 : decode b_Model_combine 122 = .ok (.invokevirtual 75, 3) := by decide +kernel
theorem d_Model_combine_125 : decode b_Model_combine 125 = .ok (.ireturn, 1) := by decide +kernel
theorem d_Model_induces_0 : decode b_Model_induces 0 = .ok (.aload_n 0, 1) := by decide +kernel
theorem d_Model_induces_1 : decode b_Model_induces 1 = .ok (.iload_n 1, 1) := by decide +kernel
theorem d_Model_induces_2 : decode b_Model_induces 2 = .ok (.iconst 5, 1) := by decide +kernel
theorem d_Model_induces_3 : decode b_Model_induces 3 = .ok (.invokevirtual 89, 3) := by decide +kernel
theorem d_Model_induces_6 : decode b_Model_induces 6 = .ok (.iconst 0, 1) := by decide +kernel
theorem d_Model_induces_7 : decode b_Model_induces 7 = .ok (.istore 4, 2) := by decide +kernel
theorem d_Model_induces_9 : decode b_Model_induces 9 = .ok (.iconst 0, 1) := by decide +kernel
theorem d_Model_induces_10 : decode b_Model_induces 10 = .ok (.istore 5, 2) := by decide +kernel
theorem d_Model_induces_12 : decode b_Model_induces 12 = .ok (.iload 5, 2) := by decide +kernel
theorem d_Model_induces_14 : decode b_Model_induces 14 = .ok (.aload_n 0, 1) := by decide +kernel
theorem d_Model_induces_15 : decode b_Model_induces 15 = .ok (.iconst 5, 1) := by decide +kernel
theorem d_Model_induces_16 : decode b_Model_induces 16 = .ok (.invokevirtual 75, 3) := by decide +kernel
theorem d_Model_induces_19 : decode b_Model_induces 19 = .ok (.if_icmp .ge 20, 3) := by decide +kernel
theorem d_Model_induces_22 : decode b_Model_induces 22 = .ok (.iload 4, 2) := by decide +kernel
theorem d_Model_induces_24 : decode b_Model_induces 24 = .ok (.iload_n 3, 1) := by decide +kernel
theorem d_Model_induces_25 : decode b_Model_induces 25 = .ok (.iload 5, 2) := by decide +kernel
theorem d_Model_induces_27 : decode b_Model_induces 27 = .ok (.ishr, 1) := by decide +kernel
theorem d_Model_induces_28 : decode b_Model_induces 28 = .ok (.iconst 1, 1) := by decide +kernel
theorem d_Model_induces_29 : decode b_Model_induces 29 = .ok (.iand, 1) := by decide +kernel
theorem d_Model_induces_30 : decode b_Model_induces 30 = .ok (.iadd, 1) := by decide +kernel
theorem d_Model_induces_31 : decode b_Model_induces 31 = .ok (.istore 4, 2) := by decide +kernel
theorem d_Model_induces_33 : decode b_Model_induces 33 = .ok (.iinc 5 1, 3) := by decide +kernel
theorem d_Model_induces_36 : decode b_Model_induces 36 = .ok (.goto (-24), 3) := by decide +kernel
theorem d_Model_induces_39 : decode b_Model_induces 39 = .ok (.aload_n 0, 1) := by decide +kernel
theorem d_Model_induces_40 : decode b_Model_induces 40 = .ok (.iload_n 2, 1) := by decide +kernel
theorem d_Model_induces_41 : decode b_Model_induces 41 = .ok (.iload 4, 2) := by decide +kernel
theorem d_Model_induces_43 : decode b_Model_induces 43 = .ok (.invokevirtual 96, 3) := by decide +kernel
theorem d_Model_induces_46 : decode b_Model_induces 46 = .ok (.iconst 0, 1) := by decide +kernel
theorem d_Model_induces_47 : decode b_Model_induces 47 = .ok (.istore 5, 2) := by decide +kernel
theorem d_Model_induces_49 : decode b_Model_induces 49 = .ok (.iconst 0, 1) := by decide +kernel
theorem d_Model_induces_50 : decode b_Model_induces 50 = .ok (.istore 6, 2) := by decide +kernel
theorem d_Model_induces_52 : decode b_Model_induces 52 = .ok (.iload 6, 2) := by decide +kernel
theorem d_Model_induces_54 : decode b_Model_induces 54 = .ok (.aload_n 0, 1) := by decide +kernel
theorem d_Model_induces_55 : decode b_Model_induces 55 = .ok (.iconst 5, 1) := by decide +kernel
theorem d_Model_induces_56 : decode b_Model_induces 56 = .ok (.invokevirtual 75, 3) := by decide +kernel
theorem d_Model_induces_59 : decode b_Model_induces 59 = .ok (.if_icmp .ge 93, 3) := by decide +kernel
theorem d_Model_induces_62 : decode b_Model_induces 62 = .ok (.iload_n 3, 1) := by decide +kernel
theorem d_Model_induces_63 : decode b_Model_induces 63 = .ok (.iload 6, 2) := by decide +kernel
theorem d_Model_induces_65 : decode b_Model_induces 65 = .ok (.ishr, 1) := by decide +kernel
theorem d_Model_induces_66 : decode b_Model_induces 66 = .ok (.iconst 1, 1) := by decide +kernel
theorem d_Model_induces_67 : decode b_Model_induces 67 = .ok (.iand, 1) := by decide +kernel
theorem d_Model_induces_68 : decode b_Model_induces 68 = .ok (.iconst 1, 1) := by decide +kernel
theorem d_Model_induces_69 : decode b_Model_induces 69 = .ok (.if_icmp .ne 77, 3) := by decide +kernel
theorem d_Model_induces_72 : decode b_Model_induces 72 = .ok (.aload_n 0, 1) := by decide +kernel
theorem d_Model_induces_73 : decode b_Model_induces 73 = .ok (.getfield 7, 3) := by decide +kernel
theorem d_Model_induces_76 : decode b_Model_induces 76 = .ok (.bipush 73, 2) := by decide +kernel
theorem d_Model_induces_78 : decode b_Model_induces 78 = .ok (.iload_n 2, 1) := by decide +kernel
theorem d_Model_induces_79 : decode b_Model_induces 79 = .ok (.imul, 1) := by decide +kernel
theorem d_Model_induces_80 : decode b_Model_induces 80 = .ok (.iconst 1, 1) := by decide +kernel
theorem d_Model_induces_81 : decode b_Model_induces 81 = .ok (.iadd, 1) := by decide +kernel
theorem d_Model_induces_82 : decode b_Model_induces 82 = .ok (.iload 5, 2) := by decide +kernel
theorem d_Model_induces_84 : decode b_Model_induces 84 = .ok (.iadd, 1) := by decide +kernel
theorem d_Model_induces_85 : decode b_Model_induces 85 = .ok (.aload_n 0, 1) := by decide +kernel
theorem d_Model_induces_86 : decode b_Model_induces 86 = .ok (.iconst 5, 1) := by decide +kernel
theorem d_Model_induces_87 : decode b_Model_induces 87 = .ok (.iload 6, 2) := by decide +kernel
theorem d_Model_induces_89 : decode b_Model_induces 89 = .ok (.invokevirtual 107, 3) := by decide +kernel
theorem d_Model_induces_92 : decode b_Model_induces 92 = .ok (.iastore, 1) := by decide +kernel
theorem d_Model_induces_93 : decode b_Model_induces 93 = .ok (.iconst 0, 1) := by decide +kernel
theorem d_Model_induces_94 : decode b_Model_induces 94 = .ok (.istore 7, 2) := by decide +kernel
theorem d_Model_induces_96 : decode b_Model_induces 96 = .ok (.iconst 0, 1) := by decide +kernel
theorem d_Model_induces_97 : decode b_Model_induces 97 = .ok (.istore 8, 2) := by decide +kernel
theorem d_Model_induces_99 : decode b_Model_induces 99 = .ok (.iload 8, 2) := by decide +kernel
theorem d_Model_induces_101 : decode b_Model_induces 101 = .ok (.iload 6, 2) := by decide +kernel
theorem d_Model_induces_103 : decode b_Model_induces 103 = .ok (.if_icmp .gt 40, 3) := by decide +kernel
theorem d_Model_induces_106 : decode b_Model_induces 106 = .ok (.iload_n 3, 1) := by decide +kernel
theorem d_Model_induces_107 : decode b_Model_induces 107 = .ok (.iload 8, 2) := by decide +kernel
theorem d_Model_induces_109 : decode b_Model_induces 109 = .ok (.ishr, 1) := by decide +kernel
theorem d_Model_induces_110 : decode b_Model_induces 110 = .ok (.iconst 1, 1) := by decide +kernel
theorem d_Model_induces_111 : decode b_Model_induces 111 = .ok (.iand, 1) := by decide +kernel
theorem d_Model_induces_112 : decode b_Model_induces 112 = .ok (.iconst 1, 1) := by decide +kernel
theorem d_Model_induces_113 : decode b_Model_induces 113 = .ok (.if_icmp .ne 24, 3) := by decide +kernel
theorem d_Model_induces_116 : decode b_Model_induces 116 = .ok (.aload_n 0, 1) := by decide +kernel
theorem d_Model_induces_117 : decode b_Model_induces 117 = .ok (.iload_n 2, 1) := by decide +kernel
theorem d_Model_induces_118 : decode b_Model_induces 118 = .ok (.iload 5, 2) := by decide +kernel
theorem d_Model_induces_120 : decode b_Model_induces 120 = .ok (.iload 7, 2) := by decide +kernel
theorem d_Model_induces_122 : decode b_Model_induces 122 = .ok (.aload_n 0, 1) := by decide +kernel
theorem d_Model_induces_123 : decode b_Model_induces 123 = .ok (.iconst 5, 1) := by decide +kernel
theorem d_Model_induces_124 : decode b_Model_induces 124 = .ok (.iload 6, 2) := by decide +kernel
theorem d_Model_induces_126 : decode b_Model_induces 126 = .ok (.iload 8, 2) := by decide +kernel
theorem d_Model_induces_128 : decode b_Model_induces 128 = .ok (.invokevirtual 79, 3) := by decide +kernel
theorem d_Model_induces_131 : decode b_Model_induces 131 = .ok (.invokevirtual 111, 3) := by decide +kernel
theorem d_Model_induces_134 : decode b_Model_induces 134 = .ok (.iinc 7 1, 3) := by decide +kernel
theorem d_Model_induces_137 : decode b_Model_induces 137 = .ok (.iinc 8 1, 3) := by decide +kernel
theorem d_Model_induces_140 : decode b_Model_induces 140 = .ok (.goto (-41), 3) := by decide +kernel
theorem d_Model_induces_143 : decode b_Model_induces 143 = .ok (.iinc 5 1, 3) := by decide +kernel
theorem d_Model_induces_146 : decode b_Model_induces 146 = .ok (.iinc 6 1, 3) := by decide +kernel
theorem d_Model_induces_149 : decode b_Model_induces 149 = .ok (.goto (-97), 3) := by decide +kernel
theorem d_Model_induces_152 : decode b_Model_induces 152 = .ok (.return_, 1) := by decide +kernel
def f_Model_thrown  (μ : HMem) : Option (Int32 × HMem) :=
  some ((μ.1 125 5), μ)
def f_Model_in_J15   (s0 : Int32) (μ : HMem) : Option (Int32 × HMem) :=
if s0 &&& 1 = s0 then some (s0, μ) else none
def f_Model_in_J14    (μ : HMem) : Option (Int32 × HMem) :=
f_Model_in_J15 0 μ
def f_Model_in (v0 : Int32) (v1 : Int32) (v2 : Int32) (μ : HMem) : Option (Int32 × HMem) :=
  if v0 < v1 then
    f_Model_in_J14 μ
  else
    if v2 < v0 then
      f_Model_in_J14 μ
    else
      f_Model_in_J15 1 μ
def f_Model_fails (v1 : Int32) (μ : HMem) : Option (Int32 × HMem) :=
  h_let (h_wi μ 125 5 v1) (fun μ_2 =>
  some (0, μ_2))
def f_Model_tells (v1 : Int32) (μ : HMem) : Option (Int32 × HMem) :=
  h_let (h_wi μ 125 5 0) (fun μ_2 =>
  some (v1, μ_2))
def f_Model_isGraph (v0 : Int32) (μ : HMem) : Option (Int32 × HMem) :=
  h_bd (f_Model_in v0 0 3 μ) (fun r3 μ_3 =>
  if r3 &&& 1 = r3 then some (r3, μ_3) else none)
def f_Model_size (v1 : Int32) (μ : HMem) : Option (Int32 × HMem) :=
  h_chk (73 * v1) (h_len 126) (
  some ((μ.1 126 (Int32.toNatClampNeg (73 * v1))), μ))
def f_Model_isVertex_J27   (s0 : Int32) (μ : HMem) : Option (Int32 × HMem) :=
if s0 &&& 1 = s0 then some (s0, μ) else none
def f_Model_isVertex_J26    (μ : HMem) : Option (Int32 × HMem) :=
f_Model_isVertex_J27 0 μ
def f_Model_isVertex (v1 : Int32) (v2 : Int32) (μ : HMem) : Option (Int32 × HMem) :=
  h_bd (f_Model_isGraph v1 μ) (fun r1 μ_1 =>
  if r1 = 0 then
    f_Model_isVertex_J26 μ_1
  else
    h_bd (f_Model_size v1 μ_1) (fun r11 μ_11 =>
    h_bd (f_Model_in v2 0 (r11 - 1) μ_11) (fun r16 μ_16 =>
    if r16 = 0 then
      f_Model_isVertex_J26 μ_16
    else
      f_Model_isVertex_J27 1 μ_16)))
def f_Model_weight (v1 : Int32) (v2 : Int32) (μ : HMem) : Option (Int32 × HMem) :=
  h_chk (((73 * v1) + 1) + v2) (h_len 126) (
  some ((μ.1 126 (Int32.toNatClampNeg (((73 * v1) + 1) + v2))), μ))
def f_Model_between (v1 : Int32) (v2 : Int32) (v3 : Int32) (μ : HMem) : Option (Int32 × HMem) :=
  h_chk ((((73 * v1) + 9) + (8 * v2)) + v3) (h_len 126) (
  some ((μ.1 126 (Int32.toNatClampNeg ((((73 * v1) + 9) + (8 * v2)) + v3))), μ))
def f_Model_isNear_J15   (s0 : Int32) (μ : HMem) : Option (Int32 × HMem) :=
if s0 &&& 1 = s0 then some (s0, μ) else none
def f_Model_isNear (v1 : Int32) (v2 : Int32) (v3 : Int32) (μ : HMem) : Option (Int32 × HMem) :=
  h_bd (f_Model_between v1 v2 v3 μ) (fun r4 μ_4 =>
  if r4 = 0 then
    f_Model_isNear_J15 0 μ_4
  else
    f_Model_isNear_J15 1 μ_4)
def f_Model_puts (v1 : Int32) (v2 : Int32) (v3 : Int32) (v4 : Int32) (μ : HMem) : Option (Unit × HMem) :=
  h_chk ((((73 * v1) + 9) + (8 * v2)) + v3) (h_len 126) (h_let (h_wi μ 126 (Int32.toNatClampNeg ((((73 * v1) + 9) + (8 * v2)) + v3)) v4) (fun μ_20 =>
  h_chk ((((73 * v1) + 9) + (8 * v3)) + v2) (h_len 126) (h_let (h_wi μ_20 126 (Int32.toNatClampNeg ((((73 * v1) + 9) + (8 * v3)) + v2)) v4) (fun μ_41 =>
  some ((), μ_41)))))
def f_Model_begins_J32  (rec_ : Int32 → Int32 → Int32 → HMem → Option (Unit × HMem)) (v1 : Int32) (v2 : Int32) (v3 : Int32) (s0 : Int32) (s1 : Int32) (μ : HMem) : Option (Unit × HMem) :=
h_chk s1 (h_len 126) (h_let (h_wi μ 126 (Int32.toNatClampNeg (s1)) s0) (fun μ_32 =>
h_let (v3 + 1) (fun v3_33 =>
rec_ v1 v2 v3_33 μ_32)))
def f_Model_begins_J31  (rec_ : Int32 → Int32 → Int32 → HMem → Option (Unit × HMem)) (v1 : Int32) (v2 : Int32) (v3 : Int32) (s0 : Int32) (μ : HMem) : Option (Unit × HMem) :=
f_Model_begins_J32 rec_ v1 v2 v3 0 s0 μ
def f_Model_begins_L2_b (K39 : Int32 → Int32 → HMem → Option (Unit × HMem)) (rec_ : Int32 → Int32 → Int32 → HMem → Option (Unit × HMem)) (v1 : Int32) (v2 : Int32) (v3 : Int32) (μ : HMem) : Option (Unit × HMem) :=
if (73 : Int32) ≤ v3 then
  K39 v1 v2 μ
else
  if v3 ≤ 0 then
    f_Model_begins_J31 rec_ v1 v2 v3 ((73 * v1) + v3) μ
  else
    if v2 < v3 then
      f_Model_begins_J31 rec_ v1 v2 v3 ((73 * v1) + v3) μ
    else
      f_Model_begins_J32 rec_ v1 v2 v3 1 ((73 * v1) + v3) μ
def f_Model_begins_L2 (K39 : Int32 → Int32 → HMem → Option (Unit × HMem)) : Nat → Int32 → Int32 → Int32 → HMem → Option (Unit × HMem)
  | 0, _, _, _, _ => none
  | fuel + 1, v1, v2, v3, μ => f_Model_begins_L2_b K39 (f_Model_begins_L2 K39 fuel) v1 v2 v3 μ
def f_Model_begins_J39   (v1 : Int32) (v2 : Int32) (μ : HMem) : Option (Unit × HMem) :=
h_chk (73 * v1) (h_len 126) (h_let (h_wi μ 126 (Int32.toNatClampNeg (73 * v1)) v2) (fun μ_48 =>
some ((), μ_48)))
def f_Model_begins (v1 : Int32) (v2 : Int32) (μ : HMem) : Option (Unit × HMem) :=
  f_Model_begins_L2 f_Model_begins_J39 h_fuel v1 v2 0 μ
def f_Model_copies_L2_b  (rec_ : Int32 → Int32 → Int32 → HMem → Option (Unit × HMem)) (v1 : Int32) (v2 : Int32) (v3 : Int32) (μ : HMem) : Option (Unit × HMem) :=
if (73 : Int32) ≤ v3 then
  some ((), μ)
else
  h_chk ((73 * v1) + v3) (h_len 126) (
  h_chk ((73 * v2) + v3) (h_len 126) (h_let (h_wi μ 126 (Int32.toNatClampNeg ((73 * v2) + v3)) (μ.1 126 (Int32.toNatClampNeg ((73 * v1) + v3)))) (fun μ_29 =>
  h_let (v3 + 1) (fun v3_30 =>
  rec_ v1 v2 v3_30 μ_29))))
def f_Model_copies_L2  : Nat → Int32 → Int32 → Int32 → HMem → Option (Unit × HMem)
  | 0, _, _, _, _ => none
  | fuel + 1, v1, v2, v3, μ => f_Model_copies_L2_b  (f_Model_copies_L2  fuel) v1 v2 v3 μ
def f_Model_copies (v1 : Int32) (v2 : Int32) (μ : HMem) : Option (Unit × HMem) :=
  f_Model_copies_L2 h_fuel v1 v2 0 μ
def f_Model_save_L56_b (K90 : HMem → Option (Unit × HMem)) (rec_ : Int32 → HMem → Option (Unit × HMem)) (v1 : Int32) (μ : HMem) : Option (Unit × HMem) :=
if (292 : Int32) ≤ v1 then
  K90 μ
else
  h_chk v1 (h_len 126) (
  h_chk ((292 * (μ.1 125 2)) + v1) (h_len 127) (h_let (h_wi μ 127 (Int32.toNatClampNeg ((292 * (μ.1 125 2)) + v1)) (μ.1 126 (Int32.toNatClampNeg (v1)))) (fun μ_83 =>
  h_let (v1 + 1) (fun v1_84 =>
  rec_ v1_84 μ_83))))
def f_Model_save_L56 (K90 : HMem → Option (Unit × HMem)) : Nat → Int32 → HMem → Option (Unit × HMem)
  | 0, _, _ => none
  | fuel + 1, v1, μ => f_Model_save_L56_b K90 (f_Model_save_L56 K90 fuel) v1 μ
def f_Model_save_J90    (μ : HMem) : Option (Unit × HMem) :=
h_let (h_wi μ 125 2 ((μ.1 125 2) + 1)) (fun μ_97 =>
some ((), μ_97))
def f_Model_save_J54    (μ : HMem) : Option (Unit × HMem) :=
f_Model_save_L56 f_Model_save_J90 h_fuel 0 μ
def f_Model_save_L15_b (K44 : HMem → Option (Unit × HMem)) (rec_ : Int32 → HMem → Option (Unit × HMem)) (v1 : Int32) (μ : HMem) : Option (Unit × HMem) :=
if (876 : Int32) ≤ v1 then
  K44 μ
else
  h_chk (v1 + 292) (h_len 127) (
  h_chk v1 (h_len 127) (h_let (h_wi μ 127 (Int32.toNatClampNeg (v1)) (μ.1 127 (Int32.toNatClampNeg (v1 + 292)))) (fun μ_37 =>
  h_let (v1 + 1) (fun v1_38 =>
  rec_ v1_38 μ_37))))
def f_Model_save_L15 (K44 : HMem → Option (Unit × HMem)) : Nat → Int32 → HMem → Option (Unit × HMem)
  | 0, _, _ => none
  | fuel + 1, v1, μ => f_Model_save_L15_b K44 (f_Model_save_L15 K44 fuel) v1 μ
def f_Model_save_J44    (μ : HMem) : Option (Unit × HMem) :=
h_let (h_wi μ 125 2 ((μ.1 125 2) - 1)) (fun μ_51 =>
f_Model_save_J54 μ_51)
def f_Model_save  (μ : HMem) : Option (Unit × HMem) :=
  h_let (h_wi μ 125 5 0) (fun μ_2 =>
  if ¬ (μ_2.1 125 2) = (4 : Int32) then
    f_Model_save_J54 μ_2
  else
    f_Model_save_L15 f_Model_save_J44 h_fuel 0 μ_2)
def f_Model_keeps (v1 : Int32) (μ : HMem) : Option (Unit × HMem) :=
  h_bd (f_Model_save  μ) (fun _ μ_1 =>
  h_bd (f_Model_copies 4 v1 μ_1) (fun _ μ_7 =>
  some ((), μ_7)))
def f_Model_setSize (v1 : Int32) (v2 : Int32) (μ : HMem) : Option (Int32 × HMem) :=
  h_bd (f_Model_isGraph v1 μ) (fun r1 μ_1 =>
  if ¬ r1 = 0 then
    h_bd (f_Model_in v2 0 8 μ_1) (fun r17 μ_17 =>
    if ¬ r17 = 0 then
      h_bd (f_Model_size v1 μ_17) (fun r31 μ_31 =>
      h_bd (f_Model_begins 4 v2 μ_31) (fun _ μ_38 =>
      h_bd (f_Model_keeps v1 μ_38) (fun _ μ_43 =>
      some (r31, μ_43))))
    else
      h_bd (f_Model_fails 2 μ_17) (fun r25 μ_25 =>
      some (r25, μ_25)))
  else
    h_bd (f_Model_fails 1 μ_1) (fun r9 μ_9 =>
    some (r9, μ_9)))
def f_Model_setVertex (v1 : Int32) (v2 : Int32) (v3 : Int32) (μ : HMem) : Option (Int32 × HMem) :=
  h_bd (f_Model_isVertex v1 v2 μ) (fun r3 μ_3 =>
  if ¬ r3 = 0 then
    h_bd (f_Model_in v3 (-3) 3 μ_3) (fun r19 μ_19 =>
    if ¬ r19 = 0 then
      h_bd (f_Model_save  μ_19) (fun _ μ_32 =>
      h_bd (f_Model_weight v1 v2 μ_32) (fun r38 μ_38 =>
      h_chk (((73 * v1) + 1) + v2) (h_len 126) (h_let (h_wi μ_38 126 (Int32.toNatClampNeg (((73 * v1) + 1) + v2)) v3) (fun μ_56 =>
      some (r38, μ_56)))))
    else
      h_bd (f_Model_fails 2 μ_19) (fun r27 μ_27 =>
      some (r27, μ_27)))
  else
    h_bd (f_Model_fails 1 μ_3) (fun r11 μ_11 =>
    some (r11, μ_11)))
def f_Model_setEdge_J18    (μ : HMem) : Option (Int32 × HMem) :=
h_bd (f_Model_fails 1 μ) (fun r20 μ_20 =>
some (r20, μ_20))
def f_Model_setEdge (v1 : Int32) (v2 : Int32) (v3 : Int32) (v4 : Int32) (μ : HMem) : Option (Int32 × HMem) :=
  h_bd (f_Model_isVertex v1 v2 μ) (fun r3 μ_3 =>
  if r3 = 0 then
    f_Model_setEdge_J18 μ_3
  else
    h_bd (f_Model_isVertex v1 v3 μ_3) (fun r12 μ_12 =>
    if ¬ r12 = 0 then
      h_bd (f_Model_in v4 (-2) 2 μ_12) (fun r29 μ_29 =>
      if ¬ r29 = 0 then
        h_bd (f_Model_save  μ_29) (fun _ μ_42 =>
        h_bd (f_Model_between v1 v2 v3 μ_42) (fun r49 μ_49 =>
        h_bd (f_Model_puts v1 v2 v3 v4 μ_49) (fun _ μ_60 =>
        some (r49, μ_60))))
      else
        h_bd (f_Model_fails 2 μ_29) (fun r37 μ_37 =>
        some (r37, μ_37)))
    else
      f_Model_setEdge_J18 μ_12))
def f_Model_isOf_J44   (s0 : Int32) (μ : HMem) : Option (Int32 × HMem) :=
if s0 &&& 1 = s0 then some (s0, μ) else none
def f_Model_isOf_J73   (s0 : Int32) (μ : HMem) : Option (Int32 × HMem) :=
if s0 &&& 1 = s0 then some (s0, μ) else none
def f_Model_isOf_J68    (μ : HMem) : Option (Int32 × HMem) :=
f_Model_isOf_J73 1 μ
def f_Model_isOf_J72    (μ : HMem) : Option (Int32 × HMem) :=
f_Model_isOf_J73 0 μ
def f_Model_isOf_J84   (s0 : Int32) (μ : HMem) : Option (Int32 × HMem) :=
if s0 &&& 1 = s0 then some (s0, μ) else none
def f_Model_isOf_J98   (s0 : Int32) (μ : HMem) : Option (Int32 × HMem) :=
if s0 &&& 1 = s0 then some (s0, μ) else none
def f_Model_isOf_J97    (μ : HMem) : Option (Int32 × HMem) :=
f_Model_isOf_J98 0 μ
def f_Model_isOf (v0 : Int32) (v1 : Int32) (v2 : Int32) (v3 : Int32) (μ : HMem) : Option (Int32 × HMem) :=
  if (v0).toInt < 0 ∨ 3 < (v0).toInt then
    if (1 : Int32) &&& 1 = 1 then some (1, μ) else none
  else if v0 = 0 then
    if ¬ v3 = (v2 + 1) then
      f_Model_isOf_J44 0 μ
    else
      f_Model_isOf_J44 1 μ
  else if v0 = 1 then
    if v3 = (v2 + 1) then
      f_Model_isOf_J68 μ
    else
      if v1 ≤ (2 : Int32) then
        f_Model_isOf_J72 μ
      else
        if ¬ v2 = 0 then
          f_Model_isOf_J72 μ
        else
          if ¬ v3 = (v1 - 1) then
            f_Model_isOf_J72 μ
          else
            f_Model_isOf_J68 μ
  else if v0 = 2 then
    if v2 = v3 then
      f_Model_isOf_J84 0 μ
    else
      f_Model_isOf_J84 1 μ
  else if v0 = 3 then
    if ¬ v2 = 0 then
      f_Model_isOf_J97 μ
    else
      if v3 ≤ 0 then
        f_Model_isOf_J97 μ
      else
        f_Model_isOf_J98 1 μ
  else none
def f_Model_make_J32    (μ : HMem) : Option (Int32 × HMem) :=
h_bd (f_Model_fails 2 μ) (fun r34 μ_34 =>
some (r34, μ_34))
def f_Model_make_J91  (rec_ : Int32 → Int32 → Int32 → Int32 → Int32 → Int32 → HMem → Option (Int32 × HMem)) (v1 : Int32) (v2 : Int32) (v3 : Int32) (v4 : Int32) (v5 : Int32) (v6 : Int32) (μ : HMem) : Option (Int32 × HMem) :=
h_let (v6 + 1) (fun v6_91 =>
rec_ v1 v2 v3 v4 v5 v6_91 μ)
def f_Model_make_L60_b (K97 : Int32 → Int32 → Int32 → Int32 → Int32 → HMem → Option (Int32 × HMem)) (rec_ : Int32 → Int32 → Int32 → Int32 → Int32 → Int32 → HMem → Option (Int32 × HMem)) (v1 : Int32) (v2 : Int32) (v3 : Int32) (v4 : Int32) (v5 : Int32) (v6 : Int32) (μ : HMem) : Option (Int32 × HMem) :=
if v3 ≤ v6 then
  K97 v1 v2 v3 v4 v5 μ
else
  h_bd (f_Model_isOf v2 v3 v5 v6 μ) (fun r72 μ_72 =>
  if r72 = 0 then
    f_Model_make_J91 rec_ v1 v2 v3 v4 v5 v6 μ_72
  else
    h_bd (f_Model_puts 4 v5 v6 1 μ_72) (fun _ μ_85 =>
    h_let (v4 + 1) (fun v4_88 =>
    f_Model_make_J91 rec_ v1 v2 v3 v4_88 v5 v6 μ_85)))
def f_Model_make_L60 (K97 : Int32 → Int32 → Int32 → Int32 → Int32 → HMem → Option (Int32 × HMem)) : Nat → Int32 → Int32 → Int32 → Int32 → Int32 → Int32 → HMem → Option (Int32 × HMem)
  | 0, _, _, _, _, _, _, _ => none
  | fuel + 1, v1, v2, v3, v4, v5, v6, μ => f_Model_make_L60_b K97 (f_Model_make_L60 K97 fuel) v1 v2 v3 v4 v5 v6 μ
def f_Model_make_J97  (rec_ : Int32 → Int32 → Int32 → Int32 → Int32 → HMem → Option (Int32 × HMem)) (v1 : Int32) (v2 : Int32) (v3 : Int32) (v4 : Int32) (v5 : Int32) (μ : HMem) : Option (Int32 × HMem) :=
h_let (v5 + 1) (fun v5_97 =>
rec_ v1 v2 v3 v4 v5_97 μ)
def f_Model_make_L50_b (K103 : Int32 → Int32 → HMem → Option (Int32 × HMem)) (rec_ : Int32 → Int32 → Int32 → Int32 → Int32 → HMem → Option (Int32 × HMem)) (v1 : Int32) (v2 : Int32) (v3 : Int32) (v4 : Int32) (v5 : Int32) (μ : HMem) : Option (Int32 × HMem) :=
if v3 ≤ v5 then
  K103 v1 v4 μ
else
  f_Model_make_L60 (f_Model_make_J97 rec_) h_fuel v1 v2 v3 v4 v5 v5 μ
def f_Model_make_L50 (K103 : Int32 → Int32 → HMem → Option (Int32 × HMem)) : Nat → Int32 → Int32 → Int32 → Int32 → Int32 → HMem → Option (Int32 × HMem)
  | 0, _, _, _, _, _, _ => none
  | fuel + 1, v1, v2, v3, v4, v5, μ => f_Model_make_L50_b K103 (f_Model_make_L50 K103 fuel) v1 v2 v3 v4 v5 μ
def f_Model_make_J103   (v1 : Int32) (v4 : Int32) (μ : HMem) : Option (Int32 × HMem) :=
h_bd (f_Model_keeps v1 μ) (fun _ μ_105 =>
some (v4, μ_105))
def f_Model_make (v1 : Int32) (v2 : Int32) (v3 : Int32) (μ : HMem) : Option (Int32 × HMem) :=
  h_bd (f_Model_isGraph v1 μ) (fun r1 μ_1 =>
  if ¬ r1 = 0 then
    h_bd (f_Model_in v2 0 4 μ_1) (fun r16 μ_16 =>
    if r16 = 0 then
      f_Model_make_J32 μ_16
    else
      h_bd (f_Model_in v3 0 8 μ_16) (fun r26 μ_26 =>
      if ¬ r26 = 0 then
        h_bd (f_Model_begins 4 v3 μ_26) (fun _ μ_41 =>
        f_Model_make_L50 f_Model_make_J103 h_fuel v1 v2 v3 0 0 μ_41)
      else
        f_Model_make_J32 μ_26))
  else
    h_bd (f_Model_fails 1 μ_1) (fun r9 μ_9 =>
    some (r9, μ_9)))
def f_Model_random_J44    (μ : HMem) : Option (Int32 × HMem) :=
h_bd (f_Model_fails 2 μ) (fun r46 μ_46 =>
some (r46, μ_46))
def f_Model_random_J128  (rec_ : Int32 → Int32 → Int32 → Int64 → Int32 → Int32 → Int32 → HMem → Option (Int32 × HMem)) (v1 : Int32) (v2 : Int32) (v4 : Int32) (v5 : Int64) (v7 : Int32) (v8 : Int32) (v9 : Int32) (μ : HMem) : Option (Int32 × HMem) :=
h_let (v9 + 1) (fun v9_128 =>
rec_ v1 v2 v4 v5 v7 v8 v9_128 μ)
def f_Model_random_L75_b (K134 : Int32 → Int32 → Int32 → Int64 → Int32 → Int32 → HMem → Option (Int32 × HMem)) (rec_ : Int32 → Int32 → Int32 → Int64 → Int32 → Int32 → Int32 → HMem → Option (Int32 × HMem)) (v1 : Int32) (v2 : Int32) (v4 : Int32) (v5 : Int64) (v7 : Int32) (v8 : Int32) (v9 : Int32) (μ : HMem) : Option (Int32 × HMem) :=
if v8 ≤ v9 then
  K134 v1 v2 v4 v5 v7 v8 μ
else
  if (2147483648 : Int64) = 0 then none else
  h_let (h_lrem ((1103515245 * v5) + 12345) 2147483648) (fun v5_96 =>
  if (65536 : Int64) = 0 then none else
  if (100 : Int64) = 0 then none else
  if 0 ≤ (lg_cmp (h_lrem (v5_96 / 65536) 100) (Int32.toInt64 v4)) then
    f_Model_random_J128 rec_ v1 v2 v4 v5_96 v7 v8 v9 μ
  else
    h_bd (f_Model_puts 4 v8 v9 1 μ) (fun _ μ_122 =>
    h_let (v7 + 1) (fun v7_125 =>
    f_Model_random_J128 rec_ v1 v2 v4 v5_96 v7_125 v8 v9 μ_122)))
def f_Model_random_L75 (K134 : Int32 → Int32 → Int32 → Int64 → Int32 → Int32 → HMem → Option (Int32 × HMem)) : Nat → Int32 → Int32 → Int32 → Int64 → Int32 → Int32 → Int32 → HMem → Option (Int32 × HMem)
  | 0, _, _, _, _, _, _, _, _ => none
  | fuel + 1, v1, v2, v4, v5, v7, v8, v9, μ => f_Model_random_L75_b K134 (f_Model_random_L75 K134 fuel) v1 v2 v4 v5 v7 v8 v9 μ
def f_Model_random_J134  (rec_ : Int32 → Int32 → Int32 → Int64 → Int32 → Int32 → HMem → Option (Int32 × HMem)) (v1 : Int32) (v2 : Int32) (v4 : Int32) (v5 : Int64) (v7 : Int32) (v8 : Int32) (μ : HMem) : Option (Int32 × HMem) :=
h_let (v8 + 1) (fun v8_134 =>
rec_ v1 v2 v4 v5 v7 v8_134 μ)
def f_Model_random_L66_b (K140 : Int32 → Int32 → HMem → Option (Int32 × HMem)) (rec_ : Int32 → Int32 → Int32 → Int64 → Int32 → Int32 → HMem → Option (Int32 × HMem)) (v1 : Int32) (v2 : Int32) (v4 : Int32) (v5 : Int64) (v7 : Int32) (v8 : Int32) (μ : HMem) : Option (Int32 × HMem) :=
if v2 ≤ v8 then
  K140 v1 v7 μ
else
  f_Model_random_L75 (f_Model_random_J134 rec_) h_fuel v1 v2 v4 v5 v7 v8 0 μ
def f_Model_random_L66 (K140 : Int32 → Int32 → HMem → Option (Int32 × HMem)) : Nat → Int32 → Int32 → Int32 → Int64 → Int32 → Int32 → HMem → Option (Int32 × HMem)
  | 0, _, _, _, _, _, _, _ => none
  | fuel + 1, v1, v2, v4, v5, v7, v8, μ => f_Model_random_L66_b K140 (f_Model_random_L66 K140 fuel) v1 v2 v4 v5 v7 v8 μ
def f_Model_random_J140   (v1 : Int32) (v7 : Int32) (μ : HMem) : Option (Int32 × HMem) :=
h_bd (f_Model_keeps v1 μ) (fun _ μ_142 =>
some (v7, μ_142))
def f_Model_random (v1 : Int32) (v2 : Int32) (v3 : Int32) (v4 : Int32) (μ : HMem) : Option (Int32 × HMem) :=
  h_bd (f_Model_isGraph v1 μ) (fun r1 μ_1 =>
  if ¬ r1 = 0 then
    h_bd (f_Model_in v2 0 8 μ_1) (fun r17 μ_17 =>
    if r17 = 0 then
      f_Model_random_J44 μ_17
    else
      h_bd (f_Model_in v3 0 999999 μ_17) (fun r27 μ_27 =>
      if r27 = 0 then
        f_Model_random_J44 μ_27
      else
        h_bd (f_Model_in v4 0 100 μ_27) (fun r38 μ_38 =>
        if ¬ r38 = 0 then
          h_bd (f_Model_begins 4 v2 μ_38) (fun _ μ_53 =>
          h_let (Int32.toInt64 v3) (fun v5_58 =>
          f_Model_random_L66 f_Model_random_J140 h_fuel v1 v2 v4 v5_58 0 0 μ_53))
        else
          f_Model_random_J44 μ_38)))
  else
    h_bd (f_Model_fails 1 μ_1) (fun r9 μ_9 =>
    some (r9, μ_9)))
def f_Model_limited_J21   (s0 : Int32) (μ : HMem) : Option (Int32 × HMem) :=
some (s0, μ)
def f_Model_limited (v0 : Int32) (v1 : Int32) (μ : HMem) : Option (Int32 × HMem) :=
  if v0 ≤ v1 then
    if (-v1) ≤ v0 then
      f_Model_limited_J21 v0 μ
    else
      f_Model_limited_J21 (-v1) μ
  else
    f_Model_limited_J21 v1 μ
def f_Model_unites_J128  (rec_ : Int32 → Int32 → Int32 → Int32 → Int32 → HMem → Option (Unit × HMem)) (v1 : Int32) (v2 : Int32) (v3 : Int32) (v4 : Int32) (v5 : Int32) (s0 : Int32) (s1 : Int32) (s2 : Int32) (s3 : Int32) (μ : HMem) : Option (Unit × HMem) :=
h_bd (f_Model_puts s3 s2 s1 s0 μ) (fun _ μ_128 =>
h_let (v5 + 1) (fun v5_131 =>
rec_ v1 v2 v3 v4 v5_131 μ_128))
def f_Model_unites_L71_b (K137 : Int32 → Int32 → Int32 → Int32 → HMem → Option (Unit × HMem)) (rec_ : Int32 → Int32 → Int32 → Int32 → Int32 → HMem → Option (Unit × HMem)) (v1 : Int32) (v2 : Int32) (v3 : Int32) (v4 : Int32) (v5 : Int32) (μ : HMem) : Option (Unit × HMem) :=
h_bd (f_Model_size 4 μ) (fun r75 μ_75 =>
if r75 ≤ v5 then
  K137 v1 v2 v3 v4 μ_75
else
  if v3 ≤ v5 then
    if v3 ≤ v4 then
      h_bd (f_Model_between v2 (v4 - v3) (v5 - v3) μ_75) (fun r125 μ_125 =>
      f_Model_unites_J128 rec_ v1 v2 v3 v4 v5 r125 v5 v4 4 μ_125)
    else
      f_Model_unites_J128 rec_ v1 v2 v3 v4 v5 0 v5 v4 4 μ_75
  else
    h_bd (f_Model_between v1 v4 v5 μ_75) (fun r99 μ_99 =>
    f_Model_unites_J128 rec_ v1 v2 v3 v4 v5 r99 v5 v4 4 μ_99))
def f_Model_unites_L71 (K137 : Int32 → Int32 → Int32 → Int32 → HMem → Option (Unit × HMem)) : Nat → Int32 → Int32 → Int32 → Int32 → Int32 → HMem → Option (Unit × HMem)
  | 0, _, _, _, _, _, _ => none
  | fuel + 1, v1, v2, v3, v4, v5, μ => f_Model_unites_L71_b K137 (f_Model_unites_L71 K137 fuel) v1 v2 v3 v4 v5 μ
def f_Model_unites_J137  (rec_ : Int32 → Int32 → Int32 → Int32 → HMem → Option (Unit × HMem)) (v1 : Int32) (v2 : Int32) (v3 : Int32) (v4 : Int32) (μ : HMem) : Option (Unit × HMem) :=
h_let (v4 + 1) (fun v4_137 =>
rec_ v1 v2 v3 v4_137 μ)
def f_Model_unites_J66  (rec_ : Int32 → Int32 → Int32 → Int32 → HMem → Option (Unit × HMem)) (v1 : Int32) (v2 : Int32) (v3 : Int32) (v4 : Int32) (s0 : Int32) (s1 : Int32) (μ : HMem) : Option (Unit × HMem) :=
h_chk s1 (h_len 126) (h_let (h_wi μ 126 (Int32.toNatClampNeg (s1)) s0) (fun μ_66 =>
f_Model_unites_L71 (f_Model_unites_J137 rec_) h_fuel v1 v2 v3 v4 v4 μ_66))
def f_Model_unites_L21_b  (rec_ : Int32 → Int32 → Int32 → Int32 → HMem → Option (Unit × HMem)) (v1 : Int32) (v2 : Int32) (v3 : Int32) (v4 : Int32) (μ : HMem) : Option (Unit × HMem) :=
h_bd (f_Model_size 4 μ) (fun r25 μ_25 =>
if r25 ≤ v4 then
  some ((), μ_25)
else
  if v3 ≤ v4 then
    h_bd (f_Model_weight v2 (v4 - v3) μ_25) (fun r63 μ_63 =>
    f_Model_unites_J66 rec_ v1 v2 v3 v4 r63 (293 + v4) μ_63)
  else
    h_bd (f_Model_weight v1 v4 μ_25) (fun r51 μ_51 =>
    f_Model_unites_J66 rec_ v1 v2 v3 v4 r51 (293 + v4) μ_51))
def f_Model_unites_L21  : Nat → Int32 → Int32 → Int32 → Int32 → HMem → Option (Unit × HMem)
  | 0, _, _, _, _, _ => none
  | fuel + 1, v1, v2, v3, v4, μ => f_Model_unites_L21_b  (f_Model_unites_L21  fuel) v1 v2 v3 v4 μ
def f_Model_unites (v1 : Int32) (v2 : Int32) (μ : HMem) : Option (Unit × HMem) :=
  h_bd (f_Model_size v1 μ) (fun r2 μ_2 =>
  h_bd (f_Model_size v2 μ_2) (fun r11 μ_11 =>
  h_bd (f_Model_begins 4 (r2 + r11) μ_11) (fun _ μ_15 =>
  f_Model_unites_L21 h_fuel v1 v2 r2 0 μ_15)))
def f_Model_factor_J21   (s0 : Int32) (μ : HMem) : Option (Int32 × HMem) :=
some (s0, μ)
def f_Model_factor_J14   (v1 : Int32) (v2 : Int32) (v3 : Int32) (μ : HMem) : Option (Int32 × HMem) :=
h_bd (f_Model_between v1 v2 v3 μ) (fun r18 μ_18 =>
f_Model_factor_J21 r18 μ_18)
def f_Model_factor (v1 : Int32) (v2 : Int32) (v3 : Int32) (v4 : Int32) (μ : HMem) : Option (Int32 × HMem) :=
  if v4 = 0 then
    f_Model_factor_J14 v1 v2 v3 μ
  else
    if ¬ v2 = v3 then
      f_Model_factor_J14 v1 v2 v3 μ
    else
      f_Model_factor_J21 1 μ
def f_Model_multiplies_L73_b (K135 : Int32 → Int32 → Int32 → Int32 → Int32 → HMem → Option (Unit × HMem)) (rec_ : Int32 → Int32 → Int32 → Int32 → Int32 → Int32 → HMem → Option (Unit × HMem)) (v1 : Int32) (v2 : Int32) (v3 : Int32) (v4 : Int32) (v5 : Int32) (v6 : Int32) (μ : HMem) : Option (Unit × HMem) :=
h_bd (f_Model_size 4 μ) (fun r77 μ_77 =>
if r77 ≤ v6 then
  K135 v1 v2 v3 v4 v5 μ_77
else
  if v4 = 0 then none else
  if v4 = 0 then none else
  h_bd (f_Model_factor v1 (v5 / v4) (v6 / v4) v3 μ_77) (fun r102 μ_102 =>
  if v4 = 0 then none else
  if v4 = 0 then none else
  h_bd (f_Model_factor v2 (h_irem v5 v4) (h_irem v6 v4) v3 μ_102) (fun r118 μ_118 =>
  h_bd (f_Model_limited (r102 * r118) 2 μ_118) (fun r123 μ_123 =>
  h_bd (f_Model_puts 4 v5 v6 r123 μ_123) (fun _ μ_126 =>
  h_let (v6 + 1) (fun v6_129 =>
  rec_ v1 v2 v3 v4 v5 v6_129 μ_126))))))
def f_Model_multiplies_L73 (K135 : Int32 → Int32 → Int32 → Int32 → Int32 → HMem → Option (Unit × HMem)) : Nat → Int32 → Int32 → Int32 → Int32 → Int32 → Int32 → HMem → Option (Unit × HMem)
  | 0, _, _, _, _, _, _, _ => none
  | fuel + 1, v1, v2, v3, v4, v5, v6, μ => f_Model_multiplies_L73_b K135 (f_Model_multiplies_L73 K135 fuel) v1 v2 v3 v4 v5 v6 μ
def f_Model_multiplies_J135  (rec_ : Int32 → Int32 → Int32 → Int32 → Int32 → HMem → Option (Unit × HMem)) (v1 : Int32) (v2 : Int32) (v3 : Int32) (v4 : Int32) (v5 : Int32) (μ : HMem) : Option (Unit × HMem) :=
h_let (v5 + 1) (fun v5_135 =>
rec_ v1 v2 v3 v4 v5_135 μ)
def f_Model_multiplies_L23_b  (rec_ : Int32 → Int32 → Int32 → Int32 → Int32 → HMem → Option (Unit × HMem)) (v1 : Int32) (v2 : Int32) (v3 : Int32) (v4 : Int32) (v5 : Int32) (μ : HMem) : Option (Unit × HMem) :=
h_bd (f_Model_size 4 μ) (fun r27 μ_27 =>
if r27 ≤ v5 then
  some ((), μ_27)
else
  if v4 = 0 then none else
  h_bd (f_Model_weight v1 (v5 / v4) μ_27) (fun r50 μ_50 =>
  if v4 = 0 then none else
  h_bd (f_Model_weight v2 (h_irem v5 v4) μ_50) (fun r60 μ_60 =>
  h_bd (f_Model_limited (r50 * r60) 3 μ_60) (fun r65 μ_65 =>
  h_chk (293 + v5) (h_len 126) (h_let (h_wi μ_65 126 (Int32.toNatClampNeg (293 + v5)) r65) (fun μ_68 =>
  f_Model_multiplies_L73 (f_Model_multiplies_J135 rec_) h_fuel v1 v2 v3 v4 v5 v5 μ_68))))))
def f_Model_multiplies_L23  : Nat → Int32 → Int32 → Int32 → Int32 → Int32 → HMem → Option (Unit × HMem)
  | 0, _, _, _, _, _, _ => none
  | fuel + 1, v1, v2, v3, v4, v5, μ => f_Model_multiplies_L23_b  (f_Model_multiplies_L23  fuel) v1 v2 v3 v4 v5 μ
def f_Model_multiplies (v1 : Int32) (v2 : Int32) (v3 : Int32) (μ : HMem) : Option (Unit × HMem) :=
  h_bd (f_Model_size v2 μ) (fun r2 μ_2 =>
  h_bd (f_Model_size v1 μ_2) (fun r11 μ_11 =>
  h_bd (f_Model_begins 4 (r11 * r2) μ_11) (fun _ μ_17 =>
  f_Model_multiplies_L23 h_fuel v1 v2 v3 r2 0 μ_17)))
def f_Model_combine_J21    (μ : HMem) : Option (Int32 × HMem) :=
h_bd (f_Model_fails 1 μ) (fun r23 μ_23 =>
some (r23, μ_23))
def f_Model_combine_J115   (v1 : Int32) (μ : HMem) : Option (Int32 × HMem) :=
h_bd (f_Model_keeps v1 μ) (fun _ μ_117 =>
h_bd (f_Model_size v1 μ_117) (fun r122 μ_122 =>
some (r122, μ_122)))
def f_Model_combine_J112   (v1 : Int32) (s0 : Int32) (s1 : Int32) (s2 : Int32) (μ : HMem) : Option (Int32 × HMem) :=
h_bd (f_Model_multiplies s2 s1 s0 μ) (fun _ μ_112 =>
f_Model_combine_J115 v1 μ_112)
def f_Model_combine_J73   (v1 : Int32) (v2 : Int32) (v3 : Int32) (v4 : Int32) (s0 : Int32) (μ : HMem) : Option (Int32 × HMem) :=
if s0 ≤ (8 : Int32) then
  if ¬ v4 = 0 then
    if ¬ v4 = (2 : Int32) then
      f_Model_combine_J112 v1 0 v3 v2 μ
    else
      f_Model_combine_J112 v1 1 v3 v2 μ
  else
    h_bd (f_Model_unites v2 v3 μ) (fun _ μ_92 =>
    f_Model_combine_J115 v1 μ_92)
else
  h_bd (f_Model_fails 3 μ) (fun r80 μ_80 =>
  some (r80, μ_80))
def f_Model_combine (v1 : Int32) (v2 : Int32) (v3 : Int32) (v4 : Int32) (μ : HMem) : Option (Int32 × HMem) :=
  h_bd (f_Model_isGraph v1 μ) (fun r1 μ_1 =>
  if r1 = 0 then
    f_Model_combine_J21 μ_1
  else
    h_bd (f_Model_isGraph v2 μ_1) (fun r8 μ_8 =>
    if r8 = 0 then
      f_Model_combine_J21 μ_8
    else
      h_bd (f_Model_isGraph v3 μ_8) (fun r15 μ_15 =>
      if ¬ r15 = 0 then
        h_bd (f_Model_in v4 0 2 μ_15) (fun r31 μ_31 =>
        if ¬ r31 = 0 then
          if ¬ v4 = 0 then
            h_bd (f_Model_size v2 μ_31) (fun r64 μ_64 =>
            h_bd (f_Model_size v3 μ_64) (fun r69 μ_69 =>
            f_Model_combine_J73 v1 v2 v3 v4 (r64 * r69) μ_69))
          else
            h_bd (f_Model_size v2 μ_31) (fun r50 μ_50 =>
            h_bd (f_Model_size v3 μ_50) (fun r55 μ_55 =>
            f_Model_combine_J73 v1 v2 v3 v4 (r50 + r55) μ_55))
        else
          h_bd (f_Model_fails 2 μ_31) (fun r39 μ_39 =>
          some (r39, μ_39)))
      else
        f_Model_combine_J21 μ_15)))
def f_Model_induces_L12_b (K39 : Int32 → Int32 → Int32 → HMem → Option (Unit × HMem)) (rec_ : Int32 → Int32 → Int32 → Int32 → HMem → Option (Unit × HMem)) (v2 : Int32) (v3 : Int32) (v4 : Int32) (v5 : Int32) (μ : HMem) : Option (Unit × HMem) :=
h_bd (f_Model_size 5 μ) (fun r16 μ_16 =>
if r16 ≤ v5 then
  K39 v2 v3 v4 μ_16
else
  h_let (v4 + ((h_ishr v3 v5) &&& 1)) (fun v4_31 =>
  h_let (v5 + 1) (fun v5_33 =>
  rec_ v2 v3 v4_31 v5_33 μ_16)))
def f_Model_induces_L12 (K39 : Int32 → Int32 → Int32 → HMem → Option (Unit × HMem)) : Nat → Int32 → Int32 → Int32 → Int32 → HMem → Option (Unit × HMem)
  | 0, _, _, _, _, _ => none
  | fuel + 1, v2, v3, v4, v5, μ => f_Model_induces_L12_b K39 (f_Model_induces_L12 K39 fuel) v2 v3 v4 v5 μ
def f_Model_induces_J146  (rec_ : Int32 → Int32 → Int32 → Int32 → HMem → Option (Unit × HMem)) (v2 : Int32) (v3 : Int32) (v5 : Int32) (v6 : Int32) (μ : HMem) : Option (Unit × HMem) :=
h_let (v6 + 1) (fun v6_146 =>
rec_ v2 v3 v5 v6_146 μ)
def f_Model_induces_J137  (rec_ : Int32 → Int32 → Int32 → Int32 → Int32 → Int32 → HMem → Option (Unit × HMem)) (v2 : Int32) (v3 : Int32) (v5 : Int32) (v6 : Int32) (v7 : Int32) (v8 : Int32) (μ : HMem) : Option (Unit × HMem) :=
h_let (v8 + 1) (fun v8_137 =>
rec_ v2 v3 v5 v6 v7 v8_137 μ)
def f_Model_induces_L99_b (K143 : Int32 → Int32 → Int32 → Int32 → HMem → Option (Unit × HMem)) (rec_ : Int32 → Int32 → Int32 → Int32 → Int32 → Int32 → HMem → Option (Unit × HMem)) (v2 : Int32) (v3 : Int32) (v5 : Int32) (v6 : Int32) (v7 : Int32) (v8 : Int32) (μ : HMem) : Option (Unit × HMem) :=
if v6 < v8 then
  K143 v2 v3 v5 v6 μ
else
  if ¬ ((h_ishr v3 v8) &&& 1) = (1 : Int32) then
    f_Model_induces_J137 rec_ v2 v3 v5 v6 v7 v8 μ
  else
    h_bd (f_Model_between 5 v6 v8 μ) (fun r128 μ_128 =>
    h_bd (f_Model_puts v2 v5 v7 r128 μ_128) (fun _ μ_131 =>
    h_let (v7 + 1) (fun v7_134 =>
    f_Model_induces_J137 rec_ v2 v3 v5 v6 v7_134 v8 μ_131)))
def f_Model_induces_L99 (K143 : Int32 → Int32 → Int32 → Int32 → HMem → Option (Unit × HMem)) : Nat → Int32 → Int32 → Int32 → Int32 → Int32 → Int32 → HMem → Option (Unit × HMem)
  | 0, _, _, _, _, _, _, _ => none
  | fuel + 1, v2, v3, v5, v6, v7, v8, μ => f_Model_induces_L99_b K143 (f_Model_induces_L99 K143 fuel) v2 v3 v5 v6 v7 v8 μ
def f_Model_induces_J143  (rec_ : Int32 → Int32 → Int32 → Int32 → HMem → Option (Unit × HMem)) (v2 : Int32) (v3 : Int32) (v5 : Int32) (v6 : Int32) (μ : HMem) : Option (Unit × HMem) :=
h_let (v5 + 1) (fun v5_143 =>
f_Model_induces_J146 rec_ v2 v3 v5_143 v6 μ)
def f_Model_induces_L52_b  (rec_ : Int32 → Int32 → Int32 → Int32 → HMem → Option (Unit × HMem)) (v2 : Int32) (v3 : Int32) (v5 : Int32) (v6 : Int32) (μ : HMem) : Option (Unit × HMem) :=
h_bd (f_Model_size 5 μ) (fun r56 μ_56 =>
if r56 ≤ v6 then
  some ((), μ_56)
else
  if ¬ ((h_ishr v3 v6) &&& 1) = (1 : Int32) then
    f_Model_induces_J146 rec_ v2 v3 v5 v6 μ_56
  else
    h_bd (f_Model_weight 5 v6 μ_56) (fun r89 μ_89 =>
    h_chk (((73 * v2) + 1) + v5) (h_len 126) (h_let (h_wi μ_89 126 (Int32.toNatClampNeg (((73 * v2) + 1) + v5)) r89) (fun μ_92 =>
    f_Model_induces_L99 (f_Model_induces_J143 rec_) h_fuel v2 v3 v5 v6 0 0 μ_92))))
def f_Model_induces_L52  : Nat → Int32 → Int32 → Int32 → Int32 → HMem → Option (Unit × HMem)
  | 0, _, _, _, _, _ => none
  | fuel + 1, v2, v3, v5, v6, μ => f_Model_induces_L52_b  (f_Model_induces_L52  fuel) v2 v3 v5 v6 μ
def f_Model_induces_J39   (v2 : Int32) (v3 : Int32) (v4 : Int32) (μ : HMem) : Option (Unit × HMem) :=
h_bd (f_Model_begins v2 v4 μ) (fun _ μ_43 =>
f_Model_induces_L52 h_fuel v2 v3 0 0 μ_43)
def f_Model_induces (v1 : Int32) (v2 : Int32) (v3 : Int32) (μ : HMem) : Option (Unit × HMem) :=
  h_bd (f_Model_copies v1 5 μ) (fun _ μ_3 =>
  f_Model_induces_L12 f_Model_induces_J39 h_fuel v2 v3 0 0 μ_3)
def p_Model_begins_2 (cx : HCx) (F_ : Int32 → Int32 → Int32 → HMem → Option (Unit × HMem)) : Prop := ∀ (v1 : Int32) (v2 : Int32) (v3 : Int32) (μ : HMem), HX cx (HQ cx h_eV) (F_ v1 v2 v3 μ) 0 0 2 [(0, .ref 125), (1, .int v1), (2, .int v2), (3, .int v3)] [] μ
def p_Model_begins_39 (cx : HCx) (F_ : Int32 → Int32 → HMem → Option (Unit × HMem)) : Prop := ∀ (v1 : Int32) (v2 : Int32) (μ : HMem), HX cx (HQ cx h_eV) (F_ v1 v2 μ) 0 0 39 [(0, .ref 125), (1, .int v1), (2, .int v2)] [] μ
def p_Model_copies_2 (cx : HCx) (F_ : Int32 → Int32 → Int32 → HMem → Option (Unit × HMem)) : Prop := ∀ (v1 : Int32) (v2 : Int32) (v3 : Int32) (μ : HMem), HX cx (HQ cx h_eV) (F_ v1 v2 v3 μ) 0 0 2 [(0, .ref 125), (1, .int v1), (2, .int v2), (3, .int v3)] [] μ
def p_Model_save_90 (cx : HCx) (F_ : HMem → Option (Unit × HMem)) : Prop := ∀  (μ : HMem), HX cx (HQ cx h_eV) (F_ μ) 0 0 90 [(0, .ref 125)] [] μ
def p_Model_save_56 (cx : HCx) (F_ : Int32 → HMem → Option (Unit × HMem)) : Prop := ∀ (v1 : Int32) (μ : HMem), HX cx (HQ cx h_eV) (F_ v1 μ) 0 0 56 [(0, .ref 125), (1, .int v1)] [] μ
def p_Model_save_44 (cx : HCx) (F_ : HMem → Option (Unit × HMem)) : Prop := ∀  (μ : HMem), HX cx (HQ cx h_eV) (F_ μ) 0 0 44 [(0, .ref 125)] [] μ
def p_Model_save_15 (cx : HCx) (F_ : Int32 → HMem → Option (Unit × HMem)) : Prop := ∀ (v1 : Int32) (μ : HMem), HX cx (HQ cx h_eV) (F_ v1 μ) 0 0 15 [(0, .ref 125), (1, .int v1)] [] μ
def p_Model_make_60 (cx : HCx) (F_ : Int32 → Int32 → Int32 → Int32 → Int32 → Int32 → HMem → Option (Int32 × HMem)) : Prop := ∀ (v1 : Int32) (v2 : Int32) (v3 : Int32) (v4 : Int32) (v5 : Int32) (v6 : Int32) (μ : HMem), HX cx (HQ cx h_eI) (F_ v1 v2 v3 v4 v5 v6 μ) 0 0 60 [(0, .ref 125), (1, .int v1), (2, .int v2), (3, .int v3), (4, .int v4), (5, .int v5), (6, .int v6)] [] μ
def p_Model_make_97 (cx : HCx) (F_ : Int32 → Int32 → Int32 → Int32 → Int32 → HMem → Option (Int32 × HMem)) : Prop := ∀ (v1 : Int32) (v2 : Int32) (v3 : Int32) (v4 : Int32) (v5 : Int32) (μ : HMem), HX cx (HQ cx h_eI) (F_ v1 v2 v3 v4 v5 μ) 0 0 97 [(0, .ref 125), (1, .int v1), (2, .int v2), (3, .int v3), (4, .int v4), (5, .int v5)] [] μ
def p_Model_make_50 (cx : HCx) (F_ : Int32 → Int32 → Int32 → Int32 → Int32 → HMem → Option (Int32 × HMem)) : Prop := ∀ (v1 : Int32) (v2 : Int32) (v3 : Int32) (v4 : Int32) (v5 : Int32) (μ : HMem), HX cx (HQ cx h_eI) (F_ v1 v2 v3 v4 v5 μ) 0 0 50 [(0, .ref 125), (1, .int v1), (2, .int v2), (3, .int v3), (4, .int v4), (5, .int v5)] [] μ
def p_Model_make_103 (cx : HCx) (F_ : Int32 → Int32 → HMem → Option (Int32 × HMem)) : Prop := ∀ (v1 : Int32) (v4 : Int32) (μ : HMem), HX cx (HQ cx h_eI) (F_ v1 v4 μ) 0 0 103 [(0, .ref 125), (1, .int v1), (4, .int v4)] [] μ
def p_Model_random_75 (cx : HCx) (F_ : Int32 → Int32 → Int32 → Int64 → Int32 → Int32 → Int32 → HMem → Option (Int32 × HMem)) : Prop := ∀ (v1 : Int32) (v2 : Int32) (v4 : Int32) (v5 : Int64) (v7 : Int32) (v8 : Int32) (v9 : Int32) (μ : HMem), HX cx (HQ cx h_eI) (F_ v1 v2 v4 v5 v7 v8 v9 μ) 0 0 75 [(0, .ref 125), (1, .int v1), (2, .int v2), (4, .int v4), (5, .long v5), (7, .int v7), (8, .int v8), (9, .int v9)] [] μ
def p_Model_random_134 (cx : HCx) (F_ : Int32 → Int32 → Int32 → Int64 → Int32 → Int32 → HMem → Option (Int32 × HMem)) : Prop := ∀ (v1 : Int32) (v2 : Int32) (v4 : Int32) (v5 : Int64) (v7 : Int32) (v8 : Int32) (μ : HMem), HX cx (HQ cx h_eI) (F_ v1 v2 v4 v5 v7 v8 μ) 0 0 134 [(0, .ref 125), (1, .int v1), (2, .int v2), (4, .int v4), (5, .long v5), (7, .int v7), (8, .int v8)] [] μ
def p_Model_random_66 (cx : HCx) (F_ : Int32 → Int32 → Int32 → Int64 → Int32 → Int32 → HMem → Option (Int32 × HMem)) : Prop := ∀ (v1 : Int32) (v2 : Int32) (v4 : Int32) (v5 : Int64) (v7 : Int32) (v8 : Int32) (μ : HMem), HX cx (HQ cx h_eI) (F_ v1 v2 v4 v5 v7 v8 μ) 0 0 66 [(0, .ref 125), (1, .int v1), (2, .int v2), (4, .int v4), (5, .long v5), (7, .int v7), (8, .int v8)] [] μ
def p_Model_random_140 (cx : HCx) (F_ : Int32 → Int32 → HMem → Option (Int32 × HMem)) : Prop := ∀ (v1 : Int32) (v7 : Int32) (μ : HMem), HX cx (HQ cx h_eI) (F_ v1 v7 μ) 0 0 140 [(0, .ref 125), (1, .int v1), (7, .int v7)] [] μ
def p_Model_unites_71 (cx : HCx) (F_ : Int32 → Int32 → Int32 → Int32 → Int32 → HMem → Option (Unit × HMem)) : Prop := ∀ (v1 : Int32) (v2 : Int32) (v3 : Int32) (v4 : Int32) (v5 : Int32) (μ : HMem), HX cx (HQ cx h_eV) (F_ v1 v2 v3 v4 v5 μ) 0 0 71 [(0, .ref 125), (1, .int v1), (2, .int v2), (3, .int v3), (4, .int v4), (5, .int v5)] [] μ
def p_Model_unites_137 (cx : HCx) (F_ : Int32 → Int32 → Int32 → Int32 → HMem → Option (Unit × HMem)) : Prop := ∀ (v1 : Int32) (v2 : Int32) (v3 : Int32) (v4 : Int32) (μ : HMem), HX cx (HQ cx h_eV) (F_ v1 v2 v3 v4 μ) 0 0 137 [(0, .ref 125), (1, .int v1), (2, .int v2), (3, .int v3), (4, .int v4)] [] μ
def p_Model_unites_21 (cx : HCx) (F_ : Int32 → Int32 → Int32 → Int32 → HMem → Option (Unit × HMem)) : Prop := ∀ (v1 : Int32) (v2 : Int32) (v3 : Int32) (v4 : Int32) (μ : HMem), HX cx (HQ cx h_eV) (F_ v1 v2 v3 v4 μ) 0 0 21 [(0, .ref 125), (1, .int v1), (2, .int v2), (3, .int v3), (4, .int v4)] [] μ
def p_Model_multiplies_135 (cx : HCx) (F_ : Int32 → Int32 → Int32 → Int32 → Int32 → HMem → Option (Unit × HMem)) : Prop := ∀ (v1 : Int32) (v2 : Int32) (v3 : Int32) (v4 : Int32) (v5 : Int32) (μ : HMem), HX cx (HQ cx h_eV) (F_ v1 v2 v3 v4 v5 μ) 0 0 135 [(0, .ref 125), (1, .int v1), (2, .int v2), (3, .int v3), (4, .int v4), (5, .int v5)] [] μ
def p_Model_multiplies_73 (cx : HCx) (F_ : Int32 → Int32 → Int32 → Int32 → Int32 → Int32 → HMem → Option (Unit × HMem)) : Prop := ∀ (v1 : Int32) (v2 : Int32) (v3 : Int32) (v4 : Int32) (v5 : Int32) (v6 : Int32) (μ : HMem), HX cx (HQ cx h_eV) (F_ v1 v2 v3 v4 v5 v6 μ) 0 0 73 [(0, .ref 125), (1, .int v1), (2, .int v2), (3, .int v3), (4, .int v4), (5, .int v5), (6, .int v6)] [] μ
def p_Model_multiplies_23 (cx : HCx) (F_ : Int32 → Int32 → Int32 → Int32 → Int32 → HMem → Option (Unit × HMem)) : Prop := ∀ (v1 : Int32) (v2 : Int32) (v3 : Int32) (v4 : Int32) (v5 : Int32) (μ : HMem), HX cx (HQ cx h_eV) (F_ v1 v2 v3 v4 v5 μ) 0 0 23 [(0, .ref 125), (1, .int v1), (2, .int v2), (3, .int v3), (4, .int v4), (5, .int v5)] [] μ
def p_Model_induces_39 (cx : HCx) (F_ : Int32 → Int32 → Int32 → HMem → Option (Unit × HMem)) : Prop := ∀ (v2 : Int32) (v3 : Int32) (v4 : Int32) (μ : HMem), HX cx (HQ cx h_eV) (F_ v2 v3 v4 μ) 0 0 39 [(0, .ref 125), (2, .int v2), (3, .int v3), (4, .int v4)] [] μ
def p_Model_induces_12 (cx : HCx) (F_ : Int32 → Int32 → Int32 → Int32 → HMem → Option (Unit × HMem)) : Prop := ∀ (v2 : Int32) (v3 : Int32) (v4 : Int32) (v5 : Int32) (μ : HMem), HX cx (HQ cx h_eV) (F_ v2 v3 v4 v5 μ) 0 0 12 [(0, .ref 125), (2, .int v2), (3, .int v3), (4, .int v4), (5, .int v5)] [] μ
def p_Model_induces_52 (cx : HCx) (F_ : Int32 → Int32 → Int32 → Int32 → HMem → Option (Unit × HMem)) : Prop := ∀ (v2 : Int32) (v3 : Int32) (v5 : Int32) (v6 : Int32) (μ : HMem), HX cx (HQ cx h_eV) (F_ v2 v3 v5 v6 μ) 0 0 52 [(0, .ref 125), (2, .int v2), (3, .int v3), (5, .int v5), (6, .int v6)] [] μ
def p_Model_induces_99 (cx : HCx) (F_ : Int32 → Int32 → Int32 → Int32 → Int32 → Int32 → HMem → Option (Unit × HMem)) : Prop := ∀ (v2 : Int32) (v3 : Int32) (v5 : Int32) (v6 : Int32) (v7 : Int32) (v8 : Int32) (μ : HMem), HX cx (HQ cx h_eV) (F_ v2 v3 v5 v6 v7 v8 μ) 0 0 99 [(0, .ref 125), (2, .int v2), (3, .int v3), (5, .int v5), (6, .int v6), (7, .int v7), (8, .int v8)] [] μ
def p_Model_induces_143 (cx : HCx) (F_ : Int32 → Int32 → Int32 → Int32 → HMem → Option (Unit × HMem)) : Prop := ∀ (v2 : Int32) (v3 : Int32) (v5 : Int32) (v6 : Int32) (μ : HMem), HX cx (HQ cx h_eV) (F_ v2 v3 v5 v6 μ) 0 0 143 [(0, .ref 125), (2, .int v2), (3, .int v3), (5, .int v5), (6, .int v6)] [] μ
theorem t_Model_thrown_0 {cx : HCx} (hg : HGood cx R_Model b_Model_thrown 1 1 (some .int)) (hA : h_own cx)  (μ : HMem) : HX cx (HQ cx h_eI) (f_Model_thrown μ) 0 0 0 [(0, .ref 125)] [] μ := by
  unfold f_Model_thrown
  refine r_aload_n hg 0 d_Model_thrown_0 rfl rfl ?_
  refine r_get (v := .int (μ.1 125 5)) hg c_Model (by decide) rfl (Nat.le_of_ble_eq_true rfl) rfl wf_Model_63 d_Model_thrown_1 rfl ?_
  exact r_iret hg hA rfl d_Model_thrown_4 rfl
theorem t_Model_thrown  (μ : HMem) : HSpec y_Model_thrown b_Model_thrown 1 (some .int) 1 h_eI [.ref 125] μ (f_Model_thrown μ) :=
  HSpec.of (by decide +kernel) (v_Model_thrown.1 _ (by simp)) (Nat.le_of_ble_eq_true rfl) (fun cx hA hg => t_Model_thrown_0 hg hA  μ)
theorem t_Model_in_J15 {cx : HCx} (hg : HGood cx R_Model b_Model_in 3 1 (some .boolean)) (hA : h_own cx)   (s0 : Int32) (μ : HMem) : HX cx (HQ cx h_eI) (f_Model_in_J15   s0 μ) 0 0 15 [] [.int s0] μ := by
  unfold f_Model_in_J15
  exact r_zretB hg hA rfl d_Model_in_15 rfl
theorem t_Model_in_J14 {cx : HCx} (hg : HGood cx R_Model b_Model_in 3 1 (some .boolean)) (hA : h_own cx)    (μ : HMem) : HX cx (HQ cx h_eI) (f_Model_in_J14   μ) 0 0 14 [] [] μ := by
  unfold f_Model_in_J14
  refine r_iconst (v := 0) hg d_Model_in_14 (by decide) ?_
  exact t_Model_in_J15 hg hA 0 μ
theorem t_Model_in_0 {cx : HCx} (hg : HGood cx R_Model b_Model_in 3 1 (some .boolean)) (hA : h_own cx) (v0 : Int32) (v1 : Int32) (v2 : Int32) (μ : HMem) : HX cx (HQ cx h_eI) (f_Model_in v0 v1 v2 μ) 0 0 0 [(0, .int v0), (1, .int v1), (2, .int v2)] [] μ := by
  unfold f_Model_in
  refine r_iload_n hg 0 d_Model_in_0 rfl rfl ?_
  refine r_iload_n hg 1 d_Model_in_1 rfl rfl ?_
  refine r_icmp_lt (tgt := 14) hg d_Model_in_2 (by decide) ?_ ?_
  · refine r_sub [] rfl ?_
    exact t_Model_in_J14 hg hA μ
  · refine r_iload_n hg 0 d_Model_in_5 rfl rfl ?_
    refine r_iload_n hg 2 d_Model_in_6 rfl rfl ?_
    refine r_icmp_gt (tgt := 14) hg d_Model_in_7 (by decide) ?_ ?_
    · refine r_sub [] rfl ?_
      exact t_Model_in_J14 hg hA μ
    · refine r_iconst (v := 1) hg d_Model_in_10 (by decide) ?_
      refine r_goto (tgt := 15) hg d_Model_in_11 (by decide) ?_
      refine r_sub [] rfl ?_
      exact t_Model_in_J15 hg hA 1 μ
theorem t_Model_in (v0 : Int32) (v1 : Int32) (v2 : Int32) (μ : HMem) : HSpec y_Model_in b_Model_in 3 (some .boolean) 1 h_eI [.int v0, .int v1, .int v2] μ (f_Model_in v0 v1 v2 μ) :=
  HSpec.of (by decide +kernel) (v_Model_in.1 _ (by simp)) (Nat.le_of_ble_eq_true rfl) (fun cx hA hg => t_Model_in_0 hg hA v0 v1 v2 μ)
theorem t_Model_fails_0 {cx : HCx} (hg : HGood cx R_Model b_Model_fails 2 1 (some .int)) (hA : h_own cx) (v1 : Int32) (μ : HMem) : HX cx (HQ cx h_eI) (f_Model_fails v1 μ) 0 0 0 [(0, .ref 125), (1, .int v1)] [] μ := by
  unfold f_Model_fails
  refine r_aload_n hg 0 d_Model_fails_0 rfl rfl ?_
  refine r_iload_n hg 1 d_Model_fails_1 rfl rfl ?_
  refine r_put hg c_Model t_Model_ok n_Model (by decide) rfl (Nat.le_of_ble_eq_true rfl) rfl rfl (by decide +kernel) wf_Model_63 d_Model_fails_2 ?_
  refine r_letM (fun μ_2 => ?_)
  refine r_iconst (v := 0) hg d_Model_fails_5 (by decide) ?_
  exact r_iret hg hA rfl d_Model_fails_6 rfl
theorem t_Model_fails (v1 : Int32) (μ : HMem) : HSpec y_Model_fails b_Model_fails 2 (some .int) 1 h_eI [.ref 125, .int v1] μ (f_Model_fails v1 μ) :=
  HSpec.of (by decide +kernel) (v_Model_fails.1 _ (by simp)) (Nat.le_of_ble_eq_true rfl) (fun cx hA hg => t_Model_fails_0 hg hA v1 μ)
theorem t_Model_tells_0 {cx : HCx} (hg : HGood cx R_Model b_Model_tells 2 1 (some .int)) (hA : h_own cx) (v1 : Int32) (μ : HMem) : HX cx (HQ cx h_eI) (f_Model_tells v1 μ) 0 0 0 [(0, .ref 125), (1, .int v1)] [] μ := by
  unfold f_Model_tells
  refine r_aload_n hg 0 d_Model_tells_0 rfl rfl ?_
  refine r_iconst (v := 0) hg d_Model_tells_1 (by decide) ?_
  refine r_put hg c_Model t_Model_ok n_Model (by decide) rfl (Nat.le_of_ble_eq_true rfl) rfl rfl (by decide +kernel) wf_Model_63 d_Model_tells_2 ?_
  refine r_letM (fun μ_2 => ?_)
  refine r_iload_n hg 1 d_Model_tells_5 rfl rfl ?_
  exact r_iret hg hA rfl d_Model_tells_6 rfl
theorem t_Model_tells (v1 : Int32) (μ : HMem) : HSpec y_Model_tells b_Model_tells 2 (some .int) 1 h_eI [.ref 125, .int v1] μ (f_Model_tells v1 μ) :=
  HSpec.of (by decide +kernel) (v_Model_tells.1 _ (by simp)) (Nat.le_of_ble_eq_true rfl) (fun cx hA hg => t_Model_tells_0 hg hA v1 μ)
theorem t_Model_isGraph_0 {cx : HCx} (hg : HGood cx R_Model b_Model_isGraph 1 2 (some .boolean)) (hA : h_own cx) (v0 : Int32) (μ : HMem) : HX cx (HQ cx h_eI) (f_Model_isGraph v0 μ) 0 0 0 [(0, .int v0)] [] μ := by
  unfold f_Model_isGraph
  refine r_iload_n hg 0 d_Model_isGraph_0 rfl rfl ?_
  refine r_iconst (v := 0) hg d_Model_isGraph_1 (by decide) ?_
  refine r_iconst (v := 3) hg d_Model_isGraph_2 (by decide) ?_
  refine r_callS (As := [.int v0, .int 0, .int 3]) hg (t_Model_in v0 0 3 μ) v_Model_in wm_Model_67 d_Model_isGraph_3 rfl ⟨by decide, by decide⟩ (Nat.le_of_ble_eq_true rfl) rfl (fun r3 μ_3 _ => ?_)
  exact r_zretB hg hA rfl d_Model_isGraph_6 rfl
theorem t_Model_isGraph (v0 : Int32) (μ : HMem) : HSpec y_Model_isGraph b_Model_isGraph 1 (some .boolean) 2 h_eI [.int v0] μ (f_Model_isGraph v0 μ) :=
  HSpec.of (by decide +kernel) (v_Model_isGraph.1 _ (by simp)) (Nat.le_of_ble_eq_true rfl) (fun cx hA hg => t_Model_isGraph_0 hg hA v0 μ)
theorem t_Model_size_0 {cx : HCx} (hg : HGood cx R_Model b_Model_size 2 1 (some .int)) (hA : h_own cx) (v1 : Int32) (μ : HMem) : HX cx (HQ cx h_eI) (f_Model_size v1 μ) 0 0 0 [(0, .ref 125), (1, .int v1)] [] μ := by
  unfold f_Model_size
  refine r_aload_n hg 0 d_Model_size_0 rfl rfl ?_
  refine r_get (v := .ref 126) hg c_Model (by decide) rfl (Nat.le_of_ble_eq_true rfl) rfl wf_Model_7 d_Model_size_1 rfl ?_
  refine r_bipush (v := 73) hg d_Model_size_4 (by decide) ?_
  refine r_iload_n hg 1 d_Model_size_6 rfl rfl ?_
  refine r_imul hg d_Model_size_7 ?_
  refine r_iald hg (by decide) rfl d_Model_size_8 ?_
  exact r_iret hg hA rfl d_Model_size_9 rfl
theorem t_Model_size (v1 : Int32) (μ : HMem) : HSpec y_Model_size b_Model_size 2 (some .int) 1 h_eI [.ref 125, .int v1] μ (f_Model_size v1 μ) :=
  HSpec.of (by decide +kernel) (v_Model_size.1 _ (by simp)) (Nat.le_of_ble_eq_true rfl) (fun cx hA hg => t_Model_size_0 hg hA v1 μ)
theorem t_Model_isVertex_J27 {cx : HCx} (hg : HGood cx R_Model b_Model_isVertex 3 3 (some .boolean)) (hA : h_own cx)   (s0 : Int32) (μ : HMem) : HX cx (HQ cx h_eI) (f_Model_isVertex_J27   s0 μ) 0 0 27 [] [.int s0] μ := by
  unfold f_Model_isVertex_J27
  exact r_zretB hg hA rfl d_Model_isVertex_27 rfl
theorem t_Model_isVertex_J26 {cx : HCx} (hg : HGood cx R_Model b_Model_isVertex 3 3 (some .boolean)) (hA : h_own cx)    (μ : HMem) : HX cx (HQ cx h_eI) (f_Model_isVertex_J26   μ) 0 0 26 [] [] μ := by
  unfold f_Model_isVertex_J26
  refine r_iconst (v := 0) hg d_Model_isVertex_26 (by decide) ?_
  exact t_Model_isVertex_J27 hg hA 0 μ
theorem t_Model_isVertex_0 {cx : HCx} (hg : HGood cx R_Model b_Model_isVertex 3 3 (some .boolean)) (hA : h_own cx) (v1 : Int32) (v2 : Int32) (μ : HMem) : HX cx (HQ cx h_eI) (f_Model_isVertex v1 v2 μ) 0 0 0 [(0, .ref 125), (1, .int v1), (2, .int v2)] [] μ := by
  unfold f_Model_isVertex
  refine r_iload_n hg 1 d_Model_isVertex_0 rfl rfl ?_
  refine r_callS (As := [.int v1]) hg (t_Model_isGraph v1 μ) v_Model_isGraph wm_Model_71 d_Model_isVertex_1 rfl ⟨by decide, by decide⟩ (Nat.le_of_ble_eq_true rfl) rfl (fun r1 μ_1 _ => ?_)
  refine r_if_eq (tgt := 26) hg d_Model_isVertex_4 (by decide) ?_ ?_
  · refine r_sub [] rfl ?_
    exact t_Model_isVertex_J26 hg hA μ_1
  · refine r_iload_n hg 2 d_Model_isVertex_7 rfl rfl ?_
    refine r_iconst (v := 0) hg d_Model_isVertex_8 (by decide) ?_
    refine r_aload_n hg 0 d_Model_isVertex_9 rfl rfl ?_
    refine r_iload_n hg 1 d_Model_isVertex_10 rfl rfl ?_
    refine r_callV (As := [.int v1]) hg (t_Model_size v1 μ_1) v_Model_size c_Model rfl (by decide) rfl wm_Model_75 d_Model_isVertex_11 rfl ⟨by decide, by decide⟩ (Nat.le_of_ble_eq_true rfl) rfl (fun r11 μ_11 _ => ?_)
    refine r_iconst (v := 1) hg d_Model_isVertex_14 (by decide) ?_
    refine r_isub hg d_Model_isVertex_15 ?_
    refine r_callS (As := [.int v2, .int 0, .int (r11 - 1)]) hg (t_Model_in v2 0 (r11 - 1) μ_11) v_Model_in wm_Model_67 d_Model_isVertex_16 rfl ⟨by decide, by decide⟩ (Nat.le_of_ble_eq_true rfl) rfl (fun r16 μ_16 _ => ?_)
    refine r_if_eq (tgt := 26) hg d_Model_isVertex_19 (by decide) ?_ ?_
    · refine r_sub [] rfl ?_
      exact t_Model_isVertex_J26 hg hA μ_16
    · refine r_iconst (v := 1) hg d_Model_isVertex_22 (by decide) ?_
      refine r_goto (tgt := 27) hg d_Model_isVertex_23 (by decide) ?_
      refine r_sub [] rfl ?_
      exact t_Model_isVertex_J27 hg hA 1 μ_16
theorem t_Model_isVertex (v1 : Int32) (v2 : Int32) (μ : HMem) : HSpec y_Model_isVertex b_Model_isVertex 3 (some .boolean) 3 h_eI [.ref 125, .int v1, .int v2] μ (f_Model_isVertex v1 v2 μ) :=
  HSpec.of (by decide +kernel) (v_Model_isVertex.1 _ (by simp)) (Nat.le_of_ble_eq_true rfl) (fun cx hA hg => t_Model_isVertex_0 hg hA v1 v2 μ)
theorem t_Model_weight_0 {cx : HCx} (hg : HGood cx R_Model b_Model_weight 3 1 (some .int)) (hA : h_own cx) (v1 : Int32) (v2 : Int32) (μ : HMem) : HX cx (HQ cx h_eI) (f_Model_weight v1 v2 μ) 0 0 0 [(0, .ref 125), (1, .int v1), (2, .int v2)] [] μ := by
  unfold f_Model_weight
  refine r_aload_n hg 0 d_Model_weight_0 rfl rfl ?_
  refine r_get (v := .ref 126) hg c_Model (by decide) rfl (Nat.le_of_ble_eq_true rfl) rfl wf_Model_7 d_Model_weight_1 rfl ?_
  refine r_bipush (v := 73) hg d_Model_weight_4 (by decide) ?_
  refine r_iload_n hg 1 d_Model_weight_6 rfl rfl ?_
  refine r_imul hg d_Model_weight_7 ?_
  refine r_iconst (v := 1) hg d_Model_weight_8 (by decide) ?_
  refine r_iadd hg d_Model_weight_9 ?_
  refine r_iload_n hg 2 d_Model_weight_10 rfl rfl ?_
  refine r_iadd hg d_Model_weight_11 ?_
  refine r_iald hg (by decide) rfl d_Model_weight_12 ?_
  exact r_iret hg hA rfl d_Model_weight_13 rfl
theorem t_Model_weight (v1 : Int32) (v2 : Int32) (μ : HMem) : HSpec y_Model_weight b_Model_weight 3 (some .int) 1 h_eI [.ref 125, .int v1, .int v2] μ (f_Model_weight v1 v2 μ) :=
  HSpec.of (by decide +kernel) (v_Model_weight.1 _ (by simp)) (Nat.le_of_ble_eq_true rfl) (fun cx hA hg => t_Model_weight_0 hg hA v1 v2 μ)
theorem t_Model_between_0 {cx : HCx} (hg : HGood cx R_Model b_Model_between 4 1 (some .int)) (hA : h_own cx) (v1 : Int32) (v2 : Int32) (v3 : Int32) (μ : HMem) : HX cx (HQ cx h_eI) (f_Model_between v1 v2 v3 μ) 0 0 0 [(0, .ref 125), (1, .int v1), (2, .int v2), (3, .int v3)] [] μ := by
  unfold f_Model_between
  refine r_aload_n hg 0 d_Model_between_0 rfl rfl ?_
  refine r_get (v := .ref 126) hg c_Model (by decide) rfl (Nat.le_of_ble_eq_true rfl) rfl wf_Model_7 d_Model_between_1 rfl ?_
  refine r_bipush (v := 73) hg d_Model_between_4 (by decide) ?_
  refine r_iload_n hg 1 d_Model_between_6 rfl rfl ?_
  refine r_imul hg d_Model_between_7 ?_
  refine r_bipush (v := 9) hg d_Model_between_8 (by decide) ?_
  refine r_iadd hg d_Model_between_10 ?_
  refine r_bipush (v := 8) hg d_Model_between_11 (by decide) ?_
  refine r_iload_n hg 2 d_Model_between_13 rfl rfl ?_
  refine r_imul hg d_Model_between_14 ?_
  refine r_iadd hg d_Model_between_15 ?_
  refine r_iload_n hg 3 d_Model_between_16 rfl rfl ?_
  refine r_iadd hg d_Model_between_17 ?_
  refine r_iald hg (by decide) rfl d_Model_between_18 ?_
  exact r_iret hg hA rfl d_Model_between_19 rfl
theorem t_Model_between (v1 : Int32) (v2 : Int32) (v3 : Int32) (μ : HMem) : HSpec y_Model_between b_Model_between 4 (some .int) 1 h_eI [.ref 125, .int v1, .int v2, .int v3] μ (f_Model_between v1 v2 v3 μ) :=
  HSpec.of (by decide +kernel) (v_Model_between.1 _ (by simp)) (Nat.le_of_ble_eq_true rfl) (fun cx hA hg => t_Model_between_0 hg hA v1 v2 v3 μ)
theorem t_Model_isNear_J15 {cx : HCx} (hg : HGood cx R_Model b_Model_isNear 4 2 (some .boolean)) (hA : h_own cx)   (s0 : Int32) (μ : HMem) : HX cx (HQ cx h_eI) (f_Model_isNear_J15   s0 μ) 0 0 15 [] [.int s0] μ := by
  unfold f_Model_isNear_J15
  exact r_zretB hg hA rfl d_Model_isNear_15 rfl
theorem t_Model_isNear_0 {cx : HCx} (hg : HGood cx R_Model b_Model_isNear 4 2 (some .boolean)) (hA : h_own cx) (v1 : Int32) (v2 : Int32) (v3 : Int32) (μ : HMem) : HX cx (HQ cx h_eI) (f_Model_isNear v1 v2 v3 μ) 0 0 0 [(0, .ref 125), (1, .int v1), (2, .int v2), (3, .int v3)] [] μ := by
  unfold f_Model_isNear
  refine r_aload_n hg 0 d_Model_isNear_0 rfl rfl ?_
  refine r_iload_n hg 1 d_Model_isNear_1 rfl rfl ?_
  refine r_iload_n hg 2 d_Model_isNear_2 rfl rfl ?_
  refine r_iload_n hg 3 d_Model_isNear_3 rfl rfl ?_
  refine r_callV (As := [.int v1, .int v2, .int v3]) hg (t_Model_between v1 v2 v3 μ) v_Model_between c_Model rfl (by decide) rfl wm_Model_79 d_Model_isNear_4 rfl ⟨by decide, by decide⟩ (Nat.le_of_ble_eq_true rfl) rfl (fun r4 μ_4 _ => ?_)
  refine r_if_eq (tgt := 14) hg d_Model_isNear_7 (by decide) ?_ ?_
  · refine r_iconst (v := 0) hg d_Model_isNear_14 (by decide) ?_
    refine r_sub [] rfl ?_
    exact t_Model_isNear_J15 hg hA 0 μ_4
  · refine r_iconst (v := 1) hg d_Model_isNear_10 (by decide) ?_
    refine r_goto (tgt := 15) hg d_Model_isNear_11 (by decide) ?_
    refine r_sub [] rfl ?_
    exact t_Model_isNear_J15 hg hA 1 μ_4
theorem t_Model_isNear (v1 : Int32) (v2 : Int32) (v3 : Int32) (μ : HMem) : HSpec y_Model_isNear b_Model_isNear 4 (some .boolean) 2 h_eI [.ref 125, .int v1, .int v2, .int v3] μ (f_Model_isNear v1 v2 v3 μ) :=
  HSpec.of (by decide +kernel) (v_Model_isNear.1 _ (by simp)) (Nat.le_of_ble_eq_true rfl) (fun cx hA hg => t_Model_isNear_0 hg hA v1 v2 v3 μ)
theorem t_Model_puts_0 {cx : HCx} (hg : HGood cx R_Model b_Model_puts 5 1 none) (hA : h_own cx) (v1 : Int32) (v2 : Int32) (v3 : Int32) (v4 : Int32) (μ : HMem) : HX cx (HQ cx h_eV) (f_Model_puts v1 v2 v3 v4 μ) 0 0 0 [(0, .ref 125), (1, .int v1), (2, .int v2), (3, .int v3), (4, .int v4)] [] μ := by
  unfold f_Model_puts
  refine r_aload_n hg 0 d_Model_puts_0 rfl rfl ?_
  refine r_get (v := .ref 126) hg c_Model (by decide) rfl (Nat.le_of_ble_eq_true rfl) rfl wf_Model_7 d_Model_puts_1 rfl ?_
  refine r_bipush (v := 73) hg d_Model_puts_4 (by decide) ?_
  refine r_iload_n hg 1 d_Model_puts_6 rfl rfl ?_
  refine r_imul hg d_Model_puts_7 ?_
  refine r_bipush (v := 9) hg d_Model_puts_8 (by decide) ?_
  refine r_iadd hg d_Model_puts_10 ?_
  refine r_bipush (v := 8) hg d_Model_puts_11 (by decide) ?_
  refine r_iload_n hg 2 d_Model_puts_13 rfl rfl ?_
  refine r_imul hg d_Model_puts_14 ?_
  refine r_iadd hg d_Model_puts_15 ?_
  refine r_iload_n hg 3 d_Model_puts_16 rfl rfl ?_
  refine r_iadd hg d_Model_puts_17 ?_
  refine r_iload hg 4 d_Model_puts_18 rfl ?_
  refine r_iast hg (by decide) rfl d_Model_puts_20 ?_
  refine r_letM (fun μ_20 => ?_)
  refine r_aload_n hg 0 d_Model_puts_21 rfl rfl ?_
  refine r_get (v := .ref 126) hg c_Model (by decide) rfl (Nat.le_of_ble_eq_true rfl) rfl wf_Model_7 d_Model_puts_22 rfl ?_
  refine r_bipush (v := 73) hg d_Model_puts_25 (by decide) ?_
  refine r_iload_n hg 1 d_Model_puts_27 rfl rfl ?_
  refine r_imul hg d_Model_puts_28 ?_
  refine r_bipush (v := 9) hg d_Model_puts_29 (by decide) ?_
  refine r_iadd hg d_Model_puts_31 ?_
  refine r_bipush (v := 8) hg d_Model_puts_32 (by decide) ?_
  refine r_iload_n hg 3 d_Model_puts_34 rfl rfl ?_
  refine r_imul hg d_Model_puts_35 ?_
  refine r_iadd hg d_Model_puts_36 ?_
  refine r_iload_n hg 2 d_Model_puts_37 rfl rfl ?_
  refine r_iadd hg d_Model_puts_38 ?_
  refine r_iload hg 4 d_Model_puts_39 rfl ?_
  refine r_iast hg (by decide) rfl d_Model_puts_41 ?_
  refine r_letM (fun μ_41 => ?_)
  exact r_vret hg hA rfl d_Model_puts_42 rfl
theorem t_Model_puts (v1 : Int32) (v2 : Int32) (v3 : Int32) (v4 : Int32) (μ : HMem) : HSpec y_Model_puts b_Model_puts 5 none 1 h_eV [.ref 125, .int v1, .int v2, .int v3, .int v4] μ (f_Model_puts v1 v2 v3 v4 μ) :=
  HSpec.of (by decide +kernel) (v_Model_puts.1 _ (by simp)) (Nat.le_of_ble_eq_true rfl) (fun cx hA hg => t_Model_puts_0 hg hA v1 v2 v3 v4 μ)
theorem t_Model_begins_J32 {cx : HCx} (hg : HGood cx R_Model b_Model_begins 4 1 none) (hA : h_own cx)  (rec_ : Int32 → Int32 → Int32 → HMem → Option (Unit × HMem)) (hrec_ : p_Model_begins_2 cx rec_) (v1 : Int32) (v2 : Int32) (v3 : Int32) (s0 : Int32) (s1 : Int32) (μ : HMem) : HX cx (HQ cx h_eV) (f_Model_begins_J32  rec_ v1 v2 v3 s0 s1 μ) 0 0 32 [(0, .ref 125), (1, .int v1), (2, .int v2), (3, .int v3)] [.int s0, .int s1, .ref 126] μ := by
  unfold f_Model_begins_J32
  refine r_iast hg (by decide) rfl d_Model_begins_32 ?_
  refine r_letM (fun μ_32 => ?_)
  refine r_letE (fun v3_33 he_33 => ?_)
  refine r_iinc (v := v3_33) (l' := [(3, .int v3_33), (0, .ref 125), (1, .int v1), (2, .int v2)]) hg 3 d_Model_begins_33 rfl he_33 (Nat.le_of_ble_eq_true rfl) rfl ?_
  refine r_goto (tgt := 2) hg d_Model_begins_36 (by decide) ?_
  refine r_sub [1, 2, 3, 0] rfl ?_
  exact hrec_ v1 v2 v3_33 μ_32
theorem t_Model_begins_J31 {cx : HCx} (hg : HGood cx R_Model b_Model_begins 4 1 none) (hA : h_own cx)  (rec_ : Int32 → Int32 → Int32 → HMem → Option (Unit × HMem)) (hrec_ : p_Model_begins_2 cx rec_) (v1 : Int32) (v2 : Int32) (v3 : Int32) (s0 : Int32) (μ : HMem) : HX cx (HQ cx h_eV) (f_Model_begins_J31  rec_ v1 v2 v3 s0 μ) 0 0 31 [(0, .ref 125), (1, .int v1), (2, .int v2), (3, .int v3)] [.int s0, .ref 126] μ := by
  unfold f_Model_begins_J31
  refine r_iconst (v := 0) hg d_Model_begins_31 (by decide) ?_
  exact t_Model_begins_J32 hg hA rec_ hrec_ v1 v2 v3 0 s0 μ
theorem t_Model_begins_L2_b {cx : HCx} (hg : HGood cx R_Model b_Model_begins 4 1 none) (hA : h_own cx) (K39 : Int32 → Int32 → HMem → Option (Unit × HMem)) (hK39 : p_Model_begins_39 cx K39) (rec_ : Int32 → Int32 → Int32 → HMem → Option (Unit × HMem)) (hrec_ : p_Model_begins_2 cx rec_) (v1 : Int32) (v2 : Int32) (v3 : Int32) (μ : HMem) : HX cx (HQ cx h_eV) (f_Model_begins_L2_b K39 rec_ v1 v2 v3 μ) 0 0 2 [(0, .ref 125), (1, .int v1), (2, .int v2), (3, .int v3)] [] μ := by
  unfold f_Model_begins_L2_b
  refine r_iload_n hg 3 d_Model_begins_2 rfl rfl ?_
  refine r_bipush (v := 73) hg d_Model_begins_3 (by decide) ?_
  refine r_icmp_ge (tgt := 39) hg d_Model_begins_5 (by decide) ?_ ?_
  · refine r_sub [0, 1, 2] rfl ?_
    exact hK39 v1 v2 μ
  · refine r_aload_n hg 0 d_Model_begins_8 rfl rfl ?_
    refine r_get (v := .ref 126) hg c_Model (by decide) rfl (Nat.le_of_ble_eq_true rfl) rfl wf_Model_7 d_Model_begins_9 rfl ?_
    refine r_bipush (v := 73) hg d_Model_begins_12 (by decide) ?_
    refine r_iload_n hg 1 d_Model_begins_14 rfl rfl ?_
    refine r_imul hg d_Model_begins_15 ?_
    refine r_iload_n hg 3 d_Model_begins_16 rfl rfl ?_
    refine r_iadd hg d_Model_begins_17 ?_
    refine r_iload_n hg 3 d_Model_begins_18 rfl rfl ?_
    refine r_if_le (tgt := 31) hg d_Model_begins_19 (by decide) ?_ ?_
    · exact t_Model_begins_J31 hg hA rec_ hrec_ v1 v2 v3 ((73 * v1) + v3) μ
    · refine r_iload_n hg 3 d_Model_begins_22 rfl rfl ?_
      refine r_iload_n hg 2 d_Model_begins_23 rfl rfl ?_
      refine r_icmp_gt (tgt := 31) hg d_Model_begins_24 (by decide) ?_ ?_
      · exact t_Model_begins_J31 hg hA rec_ hrec_ v1 v2 v3 ((73 * v1) + v3) μ
      · refine r_iconst (v := 1) hg d_Model_begins_27 (by decide) ?_
        refine r_goto (tgt := 32) hg d_Model_begins_28 (by decide) ?_
        exact t_Model_begins_J32 hg hA rec_ hrec_ v1 v2 v3 1 ((73 * v1) + v3) μ
theorem t_Model_begins_L2 {cx : HCx} (hg : HGood cx R_Model b_Model_begins 4 1 none) (hA : h_own cx) (K39 : Int32 → Int32 → HMem → Option (Unit × HMem)) (hK39 : p_Model_begins_39 cx K39) : ∀ (fuel : Nat) (v1 : Int32) (v2 : Int32) (v3 : Int32) (μ : HMem), HX cx (HQ cx h_eV) (f_Model_begins_L2 K39 fuel v1 v2 v3 μ) 0 0 2 [(0, .ref 125), (1, .int v1), (2, .int v2), (3, .int v3)] [] μ
  | 0, _, _, _, _ => by unfold f_Model_begins_L2; exact HX.none
  | fuel + 1, v1, v2, v3, μ => by
    rw [f_Model_begins_L2]
    exact t_Model_begins_L2_b hg hA  K39 hK39 (f_Model_begins_L2 K39 fuel) (t_Model_begins_L2 hg hA  K39 hK39 fuel) v1 v2 v3 μ
theorem t_Model_begins_J39 {cx : HCx} (hg : HGood cx R_Model b_Model_begins 4 1 none) (hA : h_own cx)   (v1 : Int32) (v2 : Int32) (μ : HMem) : HX cx (HQ cx h_eV) (f_Model_begins_J39   v1 v2 μ) 0 0 39 [(0, .ref 125), (1, .int v1), (2, .int v2)] [] μ := by
  unfold f_Model_begins_J39
  refine r_aload_n hg 0 d_Model_begins_39 rfl rfl ?_
  refine r_get (v := .ref 126) hg c_Model (by decide) rfl (Nat.le_of_ble_eq_true rfl) rfl wf_Model_7 d_Model_begins_40 rfl ?_
  refine r_bipush (v := 73) hg d_Model_begins_43 (by decide) ?_
  refine r_iload_n hg 1 d_Model_begins_45 rfl rfl ?_
  refine r_imul hg d_Model_begins_46 ?_
  refine r_iload_n hg 2 d_Model_begins_47 rfl rfl ?_
  refine r_iast hg (by decide) rfl d_Model_begins_48 ?_
  refine r_letM (fun μ_48 => ?_)
  exact r_vret hg hA rfl d_Model_begins_49 rfl
theorem t_Model_begins_0 {cx : HCx} (hg : HGood cx R_Model b_Model_begins 4 1 none) (hA : h_own cx) (v1 : Int32) (v2 : Int32) (μ : HMem) : HX cx (HQ cx h_eV) (f_Model_begins v1 v2 μ) 0 0 0 [(0, .ref 125), (1, .int v1), (2, .int v2)] [] μ := by
  unfold f_Model_begins
  refine r_iconst (v := 0) hg d_Model_begins_0 (by decide) ?_
  refine r_istore_n (l' := [(3, .int 0), (0, .ref 125), (1, .int v1), (2, .int v2)]) hg d_Model_begins_1 rfl (Nat.le_of_ble_eq_true rfl) rfl ?_
  refine r_sub [1, 2, 3, 0] rfl ?_
  exact t_Model_begins_L2 hg hA f_Model_begins_J39 (t_Model_begins_J39 hg hA) h_fuel v1 v2 0 μ
theorem t_Model_begins (v1 : Int32) (v2 : Int32) (μ : HMem) : HSpec y_Model_begins b_Model_begins 4 none 1 h_eV [.ref 125, .int v1, .int v2] μ (f_Model_begins v1 v2 μ) :=
  HSpec.of (by decide +kernel) (v_Model_begins.1 _ (by simp)) (Nat.le_of_ble_eq_true rfl) (fun cx hA hg => t_Model_begins_0 hg hA v1 v2 μ)
theorem t_Model_copies_L2_b {cx : HCx} (hg : HGood cx R_Model b_Model_copies 4 1 none) (hA : h_own cx)  (rec_ : Int32 → Int32 → Int32 → HMem → Option (Unit × HMem)) (hrec_ : p_Model_copies_2 cx rec_) (v1 : Int32) (v2 : Int32) (v3 : Int32) (μ : HMem) : HX cx (HQ cx h_eV) (f_Model_copies_L2_b  rec_ v1 v2 v3 μ) 0 0 2 [(0, .ref 125), (1, .int v1), (2, .int v2), (3, .int v3)] [] μ := by
  unfold f_Model_copies_L2_b
  refine r_iload_n hg 3 d_Model_copies_2 rfl rfl ?_
  refine r_bipush (v := 73) hg d_Model_copies_3 (by decide) ?_
  refine r_icmp_ge (tgt := 36) hg d_Model_copies_5 (by decide) ?_ ?_
  · exact r_vret hg hA rfl d_Model_copies_36 rfl
  · refine r_aload_n hg 0 d_Model_copies_8 rfl rfl ?_
    refine r_get (v := .ref 126) hg c_Model (by decide) rfl (Nat.le_of_ble_eq_true rfl) rfl wf_Model_7 d_Model_copies_9 rfl ?_
    refine r_bipush (v := 73) hg d_Model_copies_12 (by decide) ?_
    refine r_iload_n hg 2 d_Model_copies_14 rfl rfl ?_
    refine r_imul hg d_Model_copies_15 ?_
    refine r_iload_n hg 3 d_Model_copies_16 rfl rfl ?_
    refine r_iadd hg d_Model_copies_17 ?_
    refine r_aload_n hg 0 d_Model_copies_18 rfl rfl ?_
    refine r_get (v := .ref 126) hg c_Model (by decide) rfl (Nat.le_of_ble_eq_true rfl) rfl wf_Model_7 d_Model_copies_19 rfl ?_
    refine r_bipush (v := 73) hg d_Model_copies_22 (by decide) ?_
    refine r_iload_n hg 1 d_Model_copies_24 rfl rfl ?_
    refine r_imul hg d_Model_copies_25 ?_
    refine r_iload_n hg 3 d_Model_copies_26 rfl rfl ?_
    refine r_iadd hg d_Model_copies_27 ?_
    refine r_iald hg (by decide) rfl d_Model_copies_28 ?_
    refine r_iast hg (by decide) rfl d_Model_copies_29 ?_
    refine r_letM (fun μ_29 => ?_)
    refine r_letE (fun v3_30 he_30 => ?_)
    refine r_iinc (v := v3_30) (l' := [(3, .int v3_30), (0, .ref 125), (1, .int v1), (2, .int v2)]) hg 3 d_Model_copies_30 rfl he_30 (Nat.le_of_ble_eq_true rfl) rfl ?_
    refine r_goto (tgt := 2) hg d_Model_copies_33 (by decide) ?_
    refine r_sub [1, 2, 3, 0] rfl ?_
    exact hrec_ v1 v2 v3_30 μ_29
theorem t_Model_copies_L2 {cx : HCx} (hg : HGood cx R_Model b_Model_copies 4 1 none) (hA : h_own cx)  : ∀ (fuel : Nat) (v1 : Int32) (v2 : Int32) (v3 : Int32) (μ : HMem), HX cx (HQ cx h_eV) (f_Model_copies_L2  fuel v1 v2 v3 μ) 0 0 2 [(0, .ref 125), (1, .int v1), (2, .int v2), (3, .int v3)] [] μ
  | 0, _, _, _, _ => by unfold f_Model_copies_L2; exact HX.none
  | fuel + 1, v1, v2, v3, μ => by
    rw [f_Model_copies_L2]
    exact t_Model_copies_L2_b hg hA   (f_Model_copies_L2  fuel) (t_Model_copies_L2 hg hA   fuel) v1 v2 v3 μ
theorem t_Model_copies_0 {cx : HCx} (hg : HGood cx R_Model b_Model_copies 4 1 none) (hA : h_own cx) (v1 : Int32) (v2 : Int32) (μ : HMem) : HX cx (HQ cx h_eV) (f_Model_copies v1 v2 μ) 0 0 0 [(0, .ref 125), (1, .int v1), (2, .int v2)] [] μ := by
  unfold f_Model_copies
  refine r_iconst (v := 0) hg d_Model_copies_0 (by decide) ?_
  refine r_istore_n (l' := [(3, .int 0), (0, .ref 125), (1, .int v1), (2, .int v2)]) hg d_Model_copies_1 rfl (Nat.le_of_ble_eq_true rfl) rfl ?_
  refine r_sub [1, 2, 3, 0] rfl ?_
  exact t_Model_copies_L2 hg hA h_fuel v1 v2 0 μ
theorem t_Model_copies (v1 : Int32) (v2 : Int32) (μ : HMem) : HSpec y_Model_copies b_Model_copies 4 none 1 h_eV [.ref 125, .int v1, .int v2] μ (f_Model_copies v1 v2 μ) :=
  HSpec.of (by decide +kernel) (v_Model_copies.1 _ (by simp)) (Nat.le_of_ble_eq_true rfl) (fun cx hA hg => t_Model_copies_0 hg hA v1 v2 μ)
theorem t_Model_save_L56_b {cx : HCx} (hg : HGood cx R_Model b_Model_save 2 1 none) (hA : h_own cx) (K90 : HMem → Option (Unit × HMem)) (hK90 : p_Model_save_90 cx K90) (rec_ : Int32 → HMem → Option (Unit × HMem)) (hrec_ : p_Model_save_56 cx rec_) (v1 : Int32) (μ : HMem) : HX cx (HQ cx h_eV) (f_Model_save_L56_b K90 rec_ v1 μ) 0 0 56 [(0, .ref 125), (1, .int v1)] [] μ := by
  unfold f_Model_save_L56_b
  refine r_iload_n hg 1 d_Model_save_56 rfl rfl ?_
  refine r_sipush (v := 292) hg d_Model_save_57 (by decide) ?_
  refine r_icmp_ge (tgt := 90) hg d_Model_save_60 (by decide) ?_ ?_
  · refine r_sub [0] rfl ?_
    exact hK90 μ
  · refine r_aload_n hg 0 d_Model_save_63 rfl rfl ?_
    refine r_get (v := .ref 127) hg c_Model (by decide) rfl (Nat.le_of_ble_eq_true rfl) rfl wf_Model_13 d_Model_save_64 rfl ?_
    refine r_sipush (v := 292) hg d_Model_save_67 (by decide) ?_
    refine r_aload_n hg 0 d_Model_save_70 rfl rfl ?_
    refine r_get (v := .int (μ.1 125 2)) hg c_Model (by decide) rfl (Nat.le_of_ble_eq_true rfl) rfl wf_Model_83 d_Model_save_71 rfl ?_
    refine r_imul hg d_Model_save_74 ?_
    refine r_iload_n hg 1 d_Model_save_75 rfl rfl ?_
    refine r_iadd hg d_Model_save_76 ?_
    refine r_aload_n hg 0 d_Model_save_77 rfl rfl ?_
    refine r_get (v := .ref 126) hg c_Model (by decide) rfl (Nat.le_of_ble_eq_true rfl) rfl wf_Model_7 d_Model_save_78 rfl ?_
    refine r_iload_n hg 1 d_Model_save_81 rfl rfl ?_
    refine r_iald hg (by decide) rfl d_Model_save_82 ?_
    refine r_iast hg (by decide) rfl d_Model_save_83 ?_
    refine r_letM (fun μ_83 => ?_)
    refine r_letE (fun v1_84 he_84 => ?_)
    refine r_iinc (v := v1_84) (l' := [(1, .int v1_84), (0, .ref 125)]) hg 1 d_Model_save_84 rfl he_84 (Nat.le_of_ble_eq_true rfl) rfl ?_
    refine r_goto (tgt := 56) hg d_Model_save_87 (by decide) ?_
    refine r_sub [1, 0] rfl ?_
    exact hrec_ v1_84 μ_83
theorem t_Model_save_L56 {cx : HCx} (hg : HGood cx R_Model b_Model_save 2 1 none) (hA : h_own cx) (K90 : HMem → Option (Unit × HMem)) (hK90 : p_Model_save_90 cx K90) : ∀ (fuel : Nat) (v1 : Int32) (μ : HMem), HX cx (HQ cx h_eV) (f_Model_save_L56 K90 fuel v1 μ) 0 0 56 [(0, .ref 125), (1, .int v1)] [] μ
  | 0, _, _ => by unfold f_Model_save_L56; exact HX.none
  | fuel + 1, v1, μ => by
    rw [f_Model_save_L56]
    exact t_Model_save_L56_b hg hA  K90 hK90 (f_Model_save_L56 K90 fuel) (t_Model_save_L56 hg hA  K90 hK90 fuel) v1 μ
theorem t_Model_save_J90 {cx : HCx} (hg : HGood cx R_Model b_Model_save 2 1 none) (hA : h_own cx)    (μ : HMem) : HX cx (HQ cx h_eV) (f_Model_save_J90   μ) 0 0 90 [(0, .ref 125)] [] μ := by
  unfold f_Model_save_J90
  refine r_aload_n hg 0 d_Model_save_90 rfl rfl ?_
  refine r_dup hg d_Model_save_91 rfl ?_
  refine r_get (v := .int (μ.1 125 2)) hg c_Model (by decide) rfl (Nat.le_of_ble_eq_true rfl) rfl wf_Model_83 d_Model_save_92 rfl ?_
  refine r_iconst (v := 1) hg d_Model_save_95 (by decide) ?_
  refine r_iadd hg d_Model_save_96 ?_
  refine r_put hg c_Model t_Model_ok n_Model (by decide) rfl (Nat.le_of_ble_eq_true rfl) rfl rfl (by decide +kernel) wf_Model_83 d_Model_save_97 ?_
  refine r_letM (fun μ_97 => ?_)
  exact r_vret hg hA rfl d_Model_save_100 rfl
theorem t_Model_save_J54 {cx : HCx} (hg : HGood cx R_Model b_Model_save 2 1 none) (hA : h_own cx)    (μ : HMem) : HX cx (HQ cx h_eV) (f_Model_save_J54   μ) 0 0 54 [(0, .ref 125)] [] μ := by
  unfold f_Model_save_J54
  refine r_iconst (v := 0) hg d_Model_save_54 (by decide) ?_
  refine r_istore_n (l' := [(1, .int 0), (0, .ref 125)]) hg d_Model_save_55 rfl (Nat.le_of_ble_eq_true rfl) rfl ?_
  refine r_sub [1, 0] rfl ?_
  exact t_Model_save_L56 hg hA f_Model_save_J90 (t_Model_save_J90 hg hA) h_fuel 0 μ
theorem t_Model_save_L15_b {cx : HCx} (hg : HGood cx R_Model b_Model_save 2 1 none) (hA : h_own cx) (K44 : HMem → Option (Unit × HMem)) (hK44 : p_Model_save_44 cx K44) (rec_ : Int32 → HMem → Option (Unit × HMem)) (hrec_ : p_Model_save_15 cx rec_) (v1 : Int32) (μ : HMem) : HX cx (HQ cx h_eV) (f_Model_save_L15_b K44 rec_ v1 μ) 0 0 15 [(0, .ref 125), (1, .int v1)] [] μ := by
  unfold f_Model_save_L15_b
  refine r_iload_n hg 1 d_Model_save_15 rfl rfl ?_
  refine r_sipush (v := 876) hg d_Model_save_16 (by decide) ?_
  refine r_icmp_ge (tgt := 44) hg d_Model_save_19 (by decide) ?_ ?_
  · refine r_sub [0] rfl ?_
    exact hK44 μ
  · refine r_aload_n hg 0 d_Model_save_22 rfl rfl ?_
    refine r_get (v := .ref 127) hg c_Model (by decide) rfl (Nat.le_of_ble_eq_true rfl) rfl wf_Model_13 d_Model_save_23 rfl ?_
    refine r_iload_n hg 1 d_Model_save_26 rfl rfl ?_
    refine r_aload_n hg 0 d_Model_save_27 rfl rfl ?_
    refine r_get (v := .ref 127) hg c_Model (by decide) rfl (Nat.le_of_ble_eq_true rfl) rfl wf_Model_13 d_Model_save_28 rfl ?_
    refine r_iload_n hg 1 d_Model_save_31 rfl rfl ?_
    refine r_sipush (v := 292) hg d_Model_save_32 (by decide) ?_
    refine r_iadd hg d_Model_save_35 ?_
    refine r_iald hg (by decide) rfl d_Model_save_36 ?_
    refine r_iast hg (by decide) rfl d_Model_save_37 ?_
    refine r_letM (fun μ_37 => ?_)
    refine r_letE (fun v1_38 he_38 => ?_)
    refine r_iinc (v := v1_38) (l' := [(1, .int v1_38), (0, .ref 125)]) hg 1 d_Model_save_38 rfl he_38 (Nat.le_of_ble_eq_true rfl) rfl ?_
    refine r_goto (tgt := 15) hg d_Model_save_41 (by decide) ?_
    refine r_sub [1, 0] rfl ?_
    exact hrec_ v1_38 μ_37
theorem t_Model_save_L15 {cx : HCx} (hg : HGood cx R_Model b_Model_save 2 1 none) (hA : h_own cx) (K44 : HMem → Option (Unit × HMem)) (hK44 : p_Model_save_44 cx K44) : ∀ (fuel : Nat) (v1 : Int32) (μ : HMem), HX cx (HQ cx h_eV) (f_Model_save_L15 K44 fuel v1 μ) 0 0 15 [(0, .ref 125), (1, .int v1)] [] μ
  | 0, _, _ => by unfold f_Model_save_L15; exact HX.none
  | fuel + 1, v1, μ => by
    rw [f_Model_save_L15]
    exact t_Model_save_L15_b hg hA  K44 hK44 (f_Model_save_L15 K44 fuel) (t_Model_save_L15 hg hA  K44 hK44 fuel) v1 μ
theorem t_Model_save_J44 {cx : HCx} (hg : HGood cx R_Model b_Model_save 2 1 none) (hA : h_own cx)    (μ : HMem) : HX cx (HQ cx h_eV) (f_Model_save_J44   μ) 0 0 44 [(0, .ref 125)] [] μ := by
  unfold f_Model_save_J44
  refine r_aload_n hg 0 d_Model_save_44 rfl rfl ?_
  refine r_dup hg d_Model_save_45 rfl ?_
  refine r_get (v := .int (μ.1 125 2)) hg c_Model (by decide) rfl (Nat.le_of_ble_eq_true rfl) rfl wf_Model_83 d_Model_save_46 rfl ?_
  refine r_iconst (v := 1) hg d_Model_save_49 (by decide) ?_
  refine r_isub hg d_Model_save_50 ?_
  refine r_put hg c_Model t_Model_ok n_Model (by decide) rfl (Nat.le_of_ble_eq_true rfl) rfl rfl (by decide +kernel) wf_Model_83 d_Model_save_51 ?_
  refine r_letM (fun μ_51 => ?_)
  exact t_Model_save_J54 hg hA μ_51
theorem t_Model_save_0 {cx : HCx} (hg : HGood cx R_Model b_Model_save 2 1 none) (hA : h_own cx)  (μ : HMem) : HX cx (HQ cx h_eV) (f_Model_save μ) 0 0 0 [(0, .ref 125)] [] μ := by
  unfold f_Model_save
  refine r_aload_n hg 0 d_Model_save_0 rfl rfl ?_
  refine r_iconst (v := 0) hg d_Model_save_1 (by decide) ?_
  refine r_put hg c_Model t_Model_ok n_Model (by decide) rfl (Nat.le_of_ble_eq_true rfl) rfl rfl (by decide +kernel) wf_Model_63 d_Model_save_2 ?_
  refine r_letM (fun μ_2 => ?_)
  refine r_aload_n hg 0 d_Model_save_5 rfl rfl ?_
  refine r_get (v := .int (μ_2.1 125 2)) hg c_Model (by decide) rfl (Nat.le_of_ble_eq_true rfl) rfl wf_Model_83 d_Model_save_6 rfl ?_
  refine r_iconst (v := 4) hg d_Model_save_9 (by decide) ?_
  refine r_icmp_ne (tgt := 54) hg d_Model_save_10 (by decide) ?_ ?_
  · exact t_Model_save_J54 hg hA μ_2
  · refine r_iconst (v := 0) hg d_Model_save_13 (by decide) ?_
    refine r_istore_n (l' := [(1, .int 0), (0, .ref 125)]) hg d_Model_save_14 rfl (Nat.le_of_ble_eq_true rfl) rfl ?_
    refine r_sub [1, 0] rfl ?_
    exact t_Model_save_L15 hg hA f_Model_save_J44 (t_Model_save_J44 hg hA) h_fuel 0 μ_2
theorem t_Model_save  (μ : HMem) : HSpec y_Model_save b_Model_save 2 none 1 h_eV [.ref 125] μ (f_Model_save μ) :=
  HSpec.of (by decide +kernel) (v_Model_save.1 _ (by simp)) (Nat.le_of_ble_eq_true rfl) (fun cx hA hg => t_Model_save_0 hg hA  μ)
theorem t_Model_keeps_0 {cx : HCx} (hg : HGood cx R_Model b_Model_keeps 2 2 none) (hA : h_own cx) (v1 : Int32) (μ : HMem) : HX cx (HQ cx h_eV) (f_Model_keeps v1 μ) 0 0 0 [(0, .ref 125), (1, .int v1)] [] μ := by
  unfold f_Model_keeps
  refine r_aload_n hg 0 d_Model_keeps_0 rfl rfl ?_
  refine r_callV (As := []) hg (t_Model_save  μ) v_Model_save c_Model rfl (by decide) rfl wm_Model_86 d_Model_keeps_1 rfl ⟨by decide, by decide⟩ (Nat.le_of_ble_eq_true rfl) rfl (fun r1 μ_1 _ => ?_)
  refine r_aload_n hg 0 d_Model_keeps_4 rfl rfl ?_
  refine r_iconst (v := 4) hg d_Model_keeps_5 (by decide) ?_
  refine r_iload_n hg 1 d_Model_keeps_6 rfl rfl ?_
  refine r_callV (As := [.int 4, .int v1]) hg (t_Model_copies 4 v1 μ_1) v_Model_copies c_Model rfl (by decide) rfl wm_Model_89 d_Model_keeps_7 rfl ⟨by decide, by decide⟩ (Nat.le_of_ble_eq_true rfl) rfl (fun r7 μ_7 _ => ?_)
  exact r_vret hg hA rfl d_Model_keeps_10 rfl
theorem t_Model_keeps (v1 : Int32) (μ : HMem) : HSpec y_Model_keeps b_Model_keeps 2 none 2 h_eV [.ref 125, .int v1] μ (f_Model_keeps v1 μ) :=
  HSpec.of (by decide +kernel) (v_Model_keeps.1 _ (by simp)) (Nat.le_of_ble_eq_true rfl) (fun cx hA hg => t_Model_keeps_0 hg hA v1 μ)
theorem t_Model_setSize_0 {cx : HCx} (hg : HGood cx R_Model b_Model_setSize 4 3 (some .int)) (hA : h_own cx) (v1 : Int32) (v2 : Int32) (μ : HMem) : HX cx (HQ cx h_eI) (f_Model_setSize v1 v2 μ) 0 0 0 [(0, .ref 125), (1, .int v1), (2, .int v2)] [] μ := by
  unfold f_Model_setSize
  refine r_iload_n hg 1 d_Model_setSize_0 rfl rfl ?_
  refine r_callS (As := [.int v1]) hg (t_Model_isGraph v1 μ) v_Model_isGraph wm_Model_71 d_Model_setSize_1 rfl ⟨by decide, by decide⟩ (Nat.le_of_ble_eq_true rfl) rfl (fun r1 μ_1 _ => ?_)
  refine r_if_ne (tgt := 13) hg d_Model_setSize_4 (by decide) ?_ ?_
  · refine r_iload_n hg 2 d_Model_setSize_13 rfl rfl ?_
    refine r_iconst (v := 0) hg d_Model_setSize_14 (by decide) ?_
    refine r_bipush (v := 8) hg d_Model_setSize_15 (by decide) ?_
    refine r_callS (As := [.int v2, .int 0, .int 8]) hg (t_Model_in v2 0 8 μ_1) v_Model_in wm_Model_67 d_Model_setSize_17 rfl ⟨by decide, by decide⟩ (Nat.le_of_ble_eq_true rfl) rfl (fun r17 μ_17 _ => ?_)
    refine r_if_ne (tgt := 29) hg d_Model_setSize_20 (by decide) ?_ ?_
    · refine r_aload_n hg 0 d_Model_setSize_29 rfl rfl ?_
      refine r_iload_n hg 1 d_Model_setSize_30 rfl rfl ?_
      refine r_callV (As := [.int v1]) hg (t_Model_size v1 μ_17) v_Model_size c_Model rfl (by decide) rfl wm_Model_75 d_Model_setSize_31 rfl ⟨by decide, by decide⟩ (Nat.le_of_ble_eq_true rfl) rfl (fun r31 μ_31 _ => ?_)
      refine r_istore_n (l' := [(3, .int r31), (0, .ref 125), (1, .int v1), (2, .int v2)]) hg d_Model_setSize_34 rfl (Nat.le_of_ble_eq_true rfl) rfl ?_
      refine r_aload_n hg 1 d_Model_setSize_35 rfl rfl ?_
      refine r_iconst (v := 4) hg d_Model_setSize_36 (by decide) ?_
      refine r_iload_n hg 3 d_Model_setSize_37 rfl rfl ?_
      refine r_callV (As := [.int 4, .int v2]) hg (t_Model_begins 4 v2 μ_31) v_Model_begins c_Model rfl (by decide) rfl wm_Model_96 d_Model_setSize_38 rfl ⟨by decide, by decide⟩ (Nat.le_of_ble_eq_true rfl) rfl (fun r38 μ_38 _ => ?_)
      refine r_aload_n hg 1 d_Model_setSize_41 rfl rfl ?_
      refine r_iload_n hg 2 d_Model_setSize_42 rfl rfl ?_
      refine r_callV (As := [.int v1]) hg (t_Model_keeps v1 μ_38) v_Model_keeps c_Model rfl (by decide) rfl wm_Model_99 d_Model_setSize_43 rfl ⟨by decide, by decide⟩ (Nat.le_of_ble_eq_true rfl) rfl (fun r43 μ_43 _ => ?_)
      refine r_iload_n hg 0 d_Model_setSize_46 rfl rfl ?_
      exact r_iret hg hA rfl d_Model_setSize_47 rfl
    · refine r_aload_n hg 0 d_Model_setSize_23 rfl rfl ?_
      refine r_iconst (v := 2) hg d_Model_setSize_24 (by decide) ?_
      refine r_callV (As := [.int 2]) hg (t_Model_fails 2 μ_17) v_Model_fails c_Model rfl (by decide) rfl wm_Model_93 d_Model_setSize_25 rfl ⟨by decide, by decide⟩ (Nat.le_of_ble_eq_true rfl) rfl (fun r25 μ_25 _ => ?_)
      exact r_iret hg hA rfl d_Model_setSize_28 rfl
  · refine r_aload_n hg 0 d_Model_setSize_7 rfl rfl ?_
    refine r_iconst (v := 1) hg d_Model_setSize_8 (by decide) ?_
    refine r_callV (As := [.int 1]) hg (t_Model_fails 1 μ_1) v_Model_fails c_Model rfl (by decide) rfl wm_Model_93 d_Model_setSize_9 rfl ⟨by decide, by decide⟩ (Nat.le_of_ble_eq_true rfl) rfl (fun r9 μ_9 _ => ?_)
    exact r_iret hg hA rfl d_Model_setSize_12 rfl
theorem t_Model_setSize (v1 : Int32) (v2 : Int32) (μ : HMem) : HSpec y_Model_setSize b_Model_setSize 4 (some .int) 3 h_eI [.ref 125, .int v1, .int v2] μ (f_Model_setSize v1 v2 μ) :=
  HSpec.of (by decide +kernel) (v_Model_setSize.1 _ (by simp)) (Nat.le_of_ble_eq_true rfl) (fun cx hA hg => t_Model_setSize_0 hg hA v1 v2 μ)
theorem t_Model_setVertex_0 {cx : HCx} (hg : HGood cx R_Model b_Model_setVertex 5 4 (some .int)) (hA : h_own cx) (v1 : Int32) (v2 : Int32) (v3 : Int32) (μ : HMem) : HX cx (HQ cx h_eI) (f_Model_setVertex v1 v2 v3 μ) 0 0 0 [(0, .ref 125), (1, .int v1), (2, .int v2), (3, .int v3)] [] μ := by
  unfold f_Model_setVertex
  refine r_aload_n hg 0 d_Model_setVertex_0 rfl rfl ?_
  refine r_iload_n hg 1 d_Model_setVertex_1 rfl rfl ?_
  refine r_iload_n hg 2 d_Model_setVertex_2 rfl rfl ?_
  refine r_callV (As := [.int v1, .int v2]) hg (t_Model_isVertex v1 v2 μ) v_Model_isVertex c_Model rfl (by decide) rfl wm_Model_103 d_Model_setVertex_3 rfl ⟨by decide, by decide⟩ (Nat.le_of_ble_eq_true rfl) rfl (fun r3 μ_3 _ => ?_)
  refine r_if_ne (tgt := 15) hg d_Model_setVertex_6 (by decide) ?_ ?_
  · refine r_iload_n hg 3 d_Model_setVertex_15 rfl rfl ?_
    refine r_bipush (v := -3) hg d_Model_setVertex_16 (by decide) ?_
    refine r_iconst (v := 3) hg d_Model_setVertex_18 (by decide) ?_
    refine r_callS (As := [.int v3, .int (-3), .int 3]) hg (t_Model_in v3 (-3) 3 μ_3) v_Model_in wm_Model_67 d_Model_setVertex_19 rfl ⟨by decide, by decide⟩ (Nat.le_of_ble_eq_true rfl) rfl (fun r19 μ_19 _ => ?_)
    refine r_if_ne (tgt := 31) hg d_Model_setVertex_22 (by decide) ?_ ?_
    · refine r_aload_n hg 0 d_Model_setVertex_31 rfl rfl ?_
      refine r_callV (As := []) hg (t_Model_save  μ_19) v_Model_save c_Model rfl (by decide) rfl wm_Model_86 d_Model_setVertex_32 rfl ⟨by decide, by decide⟩ (Nat.le_of_ble_eq_true rfl) rfl (fun r32 μ_32 _ => ?_)
      refine r_aload_n hg 0 d_Model_setVertex_35 rfl rfl ?_
      refine r_iload_n hg 1 d_Model_setVertex_36 rfl rfl ?_
      refine r_iload_n hg 2 d_Model_setVertex_37 rfl rfl ?_
      refine r_callV (As := [.int v1, .int v2]) hg (t_Model_weight v1 v2 μ_32) v_Model_weight c_Model rfl (by decide) rfl wm_Model_107 d_Model_setVertex_38 rfl ⟨by decide, by decide⟩ (Nat.le_of_ble_eq_true rfl) rfl (fun r38 μ_38 _ => ?_)
      refine r_istore (l' := [(4, .int r38), (0, .ref 125), (1, .int v1), (2, .int v2), (3, .int v3)]) hg d_Model_setVertex_41 (Nat.le_of_ble_eq_true rfl) rfl ?_
      refine r_aload_n hg 1 d_Model_setVertex_43 rfl rfl ?_
      refine r_get (v := .ref 126) hg c_Model (by decide) rfl (Nat.le_of_ble_eq_true rfl) rfl wf_Model_7 d_Model_setVertex_44 rfl ?_
      refine r_bipush (v := 73) hg d_Model_setVertex_47 (by decide) ?_
      refine r_iload_n hg 2 d_Model_setVertex_49 rfl rfl ?_
      refine r_imul hg d_Model_setVertex_50 ?_
      refine r_iconst (v := 1) hg d_Model_setVertex_51 (by decide) ?_
      refine r_iadd hg d_Model_setVertex_52 ?_
      refine r_iload_n hg 3 d_Model_setVertex_53 rfl rfl ?_
      refine r_iadd hg d_Model_setVertex_54 ?_
      refine r_iload_n hg 4 d_Model_setVertex_55 rfl rfl ?_
      refine r_iast hg (by decide) rfl d_Model_setVertex_56 ?_
      refine r_letM (fun μ_56 => ?_)
      refine r_iload hg 0 d_Model_setVertex_57 rfl ?_
      exact r_iret hg hA rfl d_Model_setVertex_59 rfl
    · refine r_aload_n hg 0 d_Model_setVertex_25 rfl rfl ?_
      refine r_iconst (v := 2) hg d_Model_setVertex_26 (by decide) ?_
      refine r_callV (As := [.int 2]) hg (t_Model_fails 2 μ_19) v_Model_fails c_Model rfl (by decide) rfl wm_Model_93 d_Model_setVertex_27 rfl ⟨by decide, by decide⟩ (Nat.le_of_ble_eq_true rfl) rfl (fun r27 μ_27 _ => ?_)
      exact r_iret hg hA rfl d_Model_setVertex_30 rfl
  · refine r_aload_n hg 0 d_Model_setVertex_9 rfl rfl ?_
    refine r_iconst (v := 1) hg d_Model_setVertex_10 (by decide) ?_
    refine r_callV (As := [.int 1]) hg (t_Model_fails 1 μ_3) v_Model_fails c_Model rfl (by decide) rfl wm_Model_93 d_Model_setVertex_11 rfl ⟨by decide, by decide⟩ (Nat.le_of_ble_eq_true rfl) rfl (fun r11 μ_11 _ => ?_)
    exact r_iret hg hA rfl d_Model_setVertex_14 rfl
theorem t_Model_setVertex (v1 : Int32) (v2 : Int32) (v3 : Int32) (μ : HMem) : HSpec y_Model_setVertex b_Model_setVertex 5 (some .int) 4 h_eI [.ref 125, .int v1, .int v2, .int v3] μ (f_Model_setVertex v1 v2 v3 μ) :=
  HSpec.of (by decide +kernel) (v_Model_setVertex.1 _ (by simp)) (Nat.le_of_ble_eq_true rfl) (fun cx hA hg => t_Model_setVertex_0 hg hA v1 v2 v3 μ)
theorem t_Model_setEdge_J18 {cx : HCx} (hg : HGood cx R_Model b_Model_setEdge 6 4 (some .int)) (hA : h_own cx)    (μ : HMem) : HX cx (HQ cx h_eI) (f_Model_setEdge_J18   μ) 0 0 18 [(0, .ref 125)] [] μ := by
  unfold f_Model_setEdge_J18
  refine r_aload_n hg 0 d_Model_setEdge_18 rfl rfl ?_
  refine r_iconst (v := 1) hg d_Model_setEdge_19 (by decide) ?_
  refine r_callV (As := [.int 1]) hg (t_Model_fails 1 μ) v_Model_fails c_Model rfl (by decide) rfl wm_Model_93 d_Model_setEdge_20 rfl ⟨by decide, by decide⟩ (Nat.le_of_ble_eq_true rfl) rfl (fun r20 μ_20 _ => ?_)
  exact r_iret hg hA rfl d_Model_setEdge_23 rfl
theorem t_Model_setEdge_0 {cx : HCx} (hg : HGood cx R_Model b_Model_setEdge 6 4 (some .int)) (hA : h_own cx) (v1 : Int32) (v2 : Int32) (v3 : Int32) (v4 : Int32) (μ : HMem) : HX cx (HQ cx h_eI) (f_Model_setEdge v1 v2 v3 v4 μ) 0 0 0 [(0, .ref 125), (1, .int v1), (2, .int v2), (3, .int v3), (4, .int v4)] [] μ := by
  unfold f_Model_setEdge
  refine r_aload_n hg 0 d_Model_setEdge_0 rfl rfl ?_
  refine r_iload_n hg 1 d_Model_setEdge_1 rfl rfl ?_
  refine r_iload_n hg 2 d_Model_setEdge_2 rfl rfl ?_
  refine r_callV (As := [.int v1, .int v2]) hg (t_Model_isVertex v1 v2 μ) v_Model_isVertex c_Model rfl (by decide) rfl wm_Model_103 d_Model_setEdge_3 rfl ⟨by decide, by decide⟩ (Nat.le_of_ble_eq_true rfl) rfl (fun r3 μ_3 _ => ?_)
  refine r_if_eq (tgt := 18) hg d_Model_setEdge_6 (by decide) ?_ ?_
  · refine r_sub [0] rfl ?_
    exact t_Model_setEdge_J18 hg hA μ_3
  · refine r_aload_n hg 0 d_Model_setEdge_9 rfl rfl ?_
    refine r_iload_n hg 1 d_Model_setEdge_10 rfl rfl ?_
    refine r_iload_n hg 3 d_Model_setEdge_11 rfl rfl ?_
    refine r_callV (As := [.int v1, .int v3]) hg (t_Model_isVertex v1 v3 μ_3) v_Model_isVertex c_Model rfl (by decide) rfl wm_Model_103 d_Model_setEdge_12 rfl ⟨by decide, by decide⟩ (Nat.le_of_ble_eq_true rfl) rfl (fun r12 μ_12 _ => ?_)
    refine r_if_ne (tgt := 24) hg d_Model_setEdge_15 (by decide) ?_ ?_
    · refine r_iload hg 4 d_Model_setEdge_24 rfl ?_
      refine r_bipush (v := -2) hg d_Model_setEdge_26 (by decide) ?_
      refine r_iconst (v := 2) hg d_Model_setEdge_28 (by decide) ?_
      refine r_callS (As := [.int v4, .int (-2), .int 2]) hg (t_Model_in v4 (-2) 2 μ_12) v_Model_in wm_Model_67 d_Model_setEdge_29 rfl ⟨by decide, by decide⟩ (Nat.le_of_ble_eq_true rfl) rfl (fun r29 μ_29 _ => ?_)
      refine r_if_ne (tgt := 41) hg d_Model_setEdge_32 (by decide) ?_ ?_
      · refine r_aload_n hg 0 d_Model_setEdge_41 rfl rfl ?_
        refine r_callV (As := []) hg (t_Model_save  μ_29) v_Model_save c_Model rfl (by decide) rfl wm_Model_86 d_Model_setEdge_42 rfl ⟨by decide, by decide⟩ (Nat.le_of_ble_eq_true rfl) rfl (fun r42 μ_42 _ => ?_)
        refine r_aload_n hg 0 d_Model_setEdge_45 rfl rfl ?_
        refine r_iload_n hg 1 d_Model_setEdge_46 rfl rfl ?_
        refine r_iload_n hg 2 d_Model_setEdge_47 rfl rfl ?_
        refine r_iload_n hg 3 d_Model_setEdge_48 rfl rfl ?_
        refine r_callV (As := [.int v1, .int v2, .int v3]) hg (t_Model_between v1 v2 v3 μ_42) v_Model_between c_Model rfl (by decide) rfl wm_Model_79 d_Model_setEdge_49 rfl ⟨by decide, by decide⟩ (Nat.le_of_ble_eq_true rfl) rfl (fun r49 μ_49 _ => ?_)
        refine r_istore (l' := [(5, .int r49), (0, .ref 125), (1, .int v1), (2, .int v2), (3, .int v3), (4, .int v4)]) hg d_Model_setEdge_52 (Nat.le_of_ble_eq_true rfl) rfl ?_
        refine r_aload_n hg 1 d_Model_setEdge_54 rfl rfl ?_
        refine r_iload_n hg 2 d_Model_setEdge_55 rfl rfl ?_
        refine r_iload_n hg 3 d_Model_setEdge_56 rfl rfl ?_
        refine r_iload_n hg 4 d_Model_setEdge_57 rfl rfl ?_
        refine r_iload hg 5 d_Model_setEdge_58 rfl ?_
        refine r_callV (As := [.int v1, .int v2, .int v3, .int v4]) hg (t_Model_puts v1 v2 v3 v4 μ_49) v_Model_puts c_Model rfl (by decide) rfl wm_Model_111 d_Model_setEdge_60 rfl ⟨by decide, by decide⟩ (Nat.le_of_ble_eq_true rfl) rfl (fun r60 μ_60 _ => ?_)
        refine r_iload hg 0 d_Model_setEdge_63 rfl ?_
        exact r_iret hg hA rfl d_Model_setEdge_65 rfl
      · refine r_aload_n hg 0 d_Model_setEdge_35 rfl rfl ?_
        refine r_iconst (v := 2) hg d_Model_setEdge_36 (by decide) ?_
        refine r_callV (As := [.int 2]) hg (t_Model_fails 2 μ_29) v_Model_fails c_Model rfl (by decide) rfl wm_Model_93 d_Model_setEdge_37 rfl ⟨by decide, by decide⟩ (Nat.le_of_ble_eq_true rfl) rfl (fun r37 μ_37 _ => ?_)
        exact r_iret hg hA rfl d_Model_setEdge_40 rfl
    · refine r_sub [0] rfl ?_
      exact t_Model_setEdge_J18 hg hA μ_12
theorem t_Model_setEdge (v1 : Int32) (v2 : Int32) (v3 : Int32) (v4 : Int32) (μ : HMem) : HSpec y_Model_setEdge b_Model_setEdge 6 (some .int) 4 h_eI [.ref 125, .int v1, .int v2, .int v3, .int v4] μ (f_Model_setEdge v1 v2 v3 v4 μ) :=
  HSpec.of (by decide +kernel) (v_Model_setEdge.1 _ (by simp)) (Nat.le_of_ble_eq_true rfl) (fun cx hA hg => t_Model_setEdge_0 hg hA v1 v2 v3 v4 μ)
theorem t_Model_isOf_J44 {cx : HCx} (hg : HGood cx R_Model b_Model_isOf 4 1 (some .boolean)) (hA : h_own cx)   (s0 : Int32) (μ : HMem) : HX cx (HQ cx h_eI) (f_Model_isOf_J44   s0 μ) 0 0 44 [] [.int s0] μ := by
  unfold f_Model_isOf_J44
  exact r_zretB hg hA rfl d_Model_isOf_44 rfl
theorem t_Model_isOf_J73 {cx : HCx} (hg : HGood cx R_Model b_Model_isOf 4 1 (some .boolean)) (hA : h_own cx)   (s0 : Int32) (μ : HMem) : HX cx (HQ cx h_eI) (f_Model_isOf_J73   s0 μ) 0 0 73 [] [.int s0] μ := by
  unfold f_Model_isOf_J73
  exact r_zretB hg hA rfl d_Model_isOf_73 rfl
theorem t_Model_isOf_J68 {cx : HCx} (hg : HGood cx R_Model b_Model_isOf 4 1 (some .boolean)) (hA : h_own cx)    (μ : HMem) : HX cx (HQ cx h_eI) (f_Model_isOf_J68   μ) 0 0 68 [] [] μ := by
  unfold f_Model_isOf_J68
  refine r_iconst (v := 1) hg d_Model_isOf_68 (by decide) ?_
  refine r_goto (tgt := 73) hg d_Model_isOf_69 (by decide) ?_
  exact t_Model_isOf_J73 hg hA 1 μ
theorem t_Model_isOf_J72 {cx : HCx} (hg : HGood cx R_Model b_Model_isOf 4 1 (some .boolean)) (hA : h_own cx)    (μ : HMem) : HX cx (HQ cx h_eI) (f_Model_isOf_J72   μ) 0 0 72 [] [] μ := by
  unfold f_Model_isOf_J72
  refine r_iconst (v := 0) hg d_Model_isOf_72 (by decide) ?_
  exact t_Model_isOf_J73 hg hA 0 μ
theorem t_Model_isOf_J84 {cx : HCx} (hg : HGood cx R_Model b_Model_isOf 4 1 (some .boolean)) (hA : h_own cx)   (s0 : Int32) (μ : HMem) : HX cx (HQ cx h_eI) (f_Model_isOf_J84   s0 μ) 0 0 84 [] [.int s0] μ := by
  unfold f_Model_isOf_J84
  exact r_zretB hg hA rfl d_Model_isOf_84 rfl
theorem t_Model_isOf_J98 {cx : HCx} (hg : HGood cx R_Model b_Model_isOf 4 1 (some .boolean)) (hA : h_own cx)   (s0 : Int32) (μ : HMem) : HX cx (HQ cx h_eI) (f_Model_isOf_J98   s0 μ) 0 0 98 [] [.int s0] μ := by
  unfold f_Model_isOf_J98
  exact r_zretB hg hA rfl d_Model_isOf_98 rfl
theorem t_Model_isOf_J97 {cx : HCx} (hg : HGood cx R_Model b_Model_isOf 4 1 (some .boolean)) (hA : h_own cx)    (μ : HMem) : HX cx (HQ cx h_eI) (f_Model_isOf_J97   μ) 0 0 97 [] [] μ := by
  unfold f_Model_isOf_J97
  refine r_iconst (v := 0) hg d_Model_isOf_97 (by decide) ?_
  exact t_Model_isOf_J98 hg hA 0 μ
theorem t_Model_isOf_0 {cx : HCx} (hg : HGood cx R_Model b_Model_isOf 4 1 (some .boolean)) (hA : h_own cx) (v0 : Int32) (v1 : Int32) (v2 : Int32) (v3 : Int32) (μ : HMem) : HX cx (HQ cx h_eI) (f_Model_isOf v0 v1 v2 v3 μ) 0 0 0 [(0, .int v0), (1, .int v1), (2, .int v2), (3, .int v3)] [] μ := by
  unfold f_Model_isOf
  refine r_iload_n hg 0 d_Model_isOf_0 rfl rfl ?_
  refine h_ite (fun hs_ => ?_) (fun hs_ => ?_)
  · refine r_tswOut (tgt := 99) hg d_Model_isOf_1 hs_ (by decide) ?_
    refine r_iconst (v := 1) hg d_Model_isOf_99 (by decide) ?_
    exact r_zretB hg hA rfl d_Model_isOf_100 rfl
  refine h_ite (fun he_ => ?_) (fun _ => ?_)
  · refine r_tswIn (tgt := 32) (y := 0) (off := 31) hg d_Model_isOf_1 he_ (by decide) (by decide) (by decide) (by decide) ?_
    refine r_iload_n hg 3 d_Model_isOf_32 rfl rfl ?_
    refine r_iload_n hg 2 d_Model_isOf_33 rfl rfl ?_
    refine r_iconst (v := 1) hg d_Model_isOf_34 (by decide) ?_
    refine r_iadd hg d_Model_isOf_35 ?_
    refine r_icmp_ne (tgt := 43) hg d_Model_isOf_36 (by decide) ?_ ?_
    · refine r_iconst (v := 0) hg d_Model_isOf_43 (by decide) ?_
      refine r_sub [] rfl ?_
      exact t_Model_isOf_J44 hg hA 0 μ
    · refine r_iconst (v := 1) hg d_Model_isOf_39 (by decide) ?_
      refine r_goto (tgt := 44) hg d_Model_isOf_40 (by decide) ?_
      refine r_sub [] rfl ?_
      exact t_Model_isOf_J44 hg hA 1 μ
  refine h_ite (fun he_ => ?_) (fun _ => ?_)
  · refine r_tswIn (tgt := 45) (y := 1) (off := 44) hg d_Model_isOf_1 he_ (by decide) (by decide) (by decide) (by decide) ?_
    refine r_iload_n hg 3 d_Model_isOf_45 rfl rfl ?_
    refine r_iload_n hg 2 d_Model_isOf_46 rfl rfl ?_
    refine r_iconst (v := 1) hg d_Model_isOf_47 (by decide) ?_
    refine r_iadd hg d_Model_isOf_48 ?_
    refine r_icmp_eq (tgt := 68) hg d_Model_isOf_49 (by decide) ?_ ?_
    · refine r_sub [] rfl ?_
      exact t_Model_isOf_J68 hg hA μ
    · refine r_iload_n hg 1 d_Model_isOf_52 rfl rfl ?_
      refine r_iconst (v := 2) hg d_Model_isOf_53 (by decide) ?_
      refine r_icmp_le (tgt := 72) hg d_Model_isOf_54 (by decide) ?_ ?_
      · refine r_sub [] rfl ?_
        exact t_Model_isOf_J72 hg hA μ
      · refine r_iload_n hg 2 d_Model_isOf_57 rfl rfl ?_
        refine r_if_ne (tgt := 72) hg d_Model_isOf_58 (by decide) ?_ ?_
        · refine r_sub [] rfl ?_
          exact t_Model_isOf_J72 hg hA μ
        · refine r_iload_n hg 3 d_Model_isOf_61 rfl rfl ?_
          refine r_iload_n hg 1 d_Model_isOf_62 rfl rfl ?_
          refine r_iconst (v := 1) hg d_Model_isOf_63 (by decide) ?_
          refine r_isub hg d_Model_isOf_64 ?_
          refine r_icmp_ne (tgt := 72) hg d_Model_isOf_65 (by decide) ?_ ?_
          · refine r_sub [] rfl ?_
            exact t_Model_isOf_J72 hg hA μ
          · refine r_sub [] rfl ?_
            exact t_Model_isOf_J68 hg hA μ
  refine h_ite (fun he_ => ?_) (fun _ => ?_)
  · refine r_tswIn (tgt := 74) (y := 2) (off := 73) hg d_Model_isOf_1 he_ (by decide) (by decide) (by decide) (by decide) ?_
    refine r_iload_n hg 2 d_Model_isOf_74 rfl rfl ?_
    refine r_iload_n hg 3 d_Model_isOf_75 rfl rfl ?_
    refine r_icmp_eq (tgt := 83) hg d_Model_isOf_76 (by decide) ?_ ?_
    · refine r_iconst (v := 0) hg d_Model_isOf_83 (by decide) ?_
      refine r_sub [] rfl ?_
      exact t_Model_isOf_J84 hg hA 0 μ
    · refine r_iconst (v := 1) hg d_Model_isOf_79 (by decide) ?_
      refine r_goto (tgt := 84) hg d_Model_isOf_80 (by decide) ?_
      refine r_sub [] rfl ?_
      exact t_Model_isOf_J84 hg hA 1 μ
  refine h_ite (fun he_ => ?_) (fun _ => ?_)
  · refine r_tswIn (tgt := 85) (y := 3) (off := 84) hg d_Model_isOf_1 he_ (by decide) (by decide) (by decide) (by decide) ?_
    refine r_iload_n hg 2 d_Model_isOf_85 rfl rfl ?_
    refine r_if_ne (tgt := 97) hg d_Model_isOf_86 (by decide) ?_ ?_
    · refine r_sub [] rfl ?_
      exact t_Model_isOf_J97 hg hA μ
    · refine r_iload_n hg 3 d_Model_isOf_89 rfl rfl ?_
      refine r_if_le (tgt := 97) hg d_Model_isOf_90 (by decide) ?_ ?_
      · refine r_sub [] rfl ?_
        exact t_Model_isOf_J97 hg hA μ
      · refine r_iconst (v := 1) hg d_Model_isOf_93 (by decide) ?_
        refine r_goto (tgt := 98) hg d_Model_isOf_94 (by decide) ?_
        refine r_sub [] rfl ?_
        exact t_Model_isOf_J98 hg hA 1 μ
  exact HX.none
theorem t_Model_isOf (v0 : Int32) (v1 : Int32) (v2 : Int32) (v3 : Int32) (μ : HMem) : HSpec y_Model_isOf b_Model_isOf 4 (some .boolean) 1 h_eI [.int v0, .int v1, .int v2, .int v3] μ (f_Model_isOf v0 v1 v2 v3 μ) :=
  HSpec.of (by decide +kernel) (v_Model_isOf.1 _ (by simp)) (Nat.le_of_ble_eq_true rfl) (fun cx hA hg => t_Model_isOf_0 hg hA v0 v1 v2 v3 μ)
theorem t_Model_make_J32 {cx : HCx} (hg : HGood cx R_Model b_Model_make 7 3 (some .int)) (hA : h_own cx)    (μ : HMem) : HX cx (HQ cx h_eI) (f_Model_make_J32   μ) 0 0 32 [(0, .ref 125)] [] μ := by
  unfold f_Model_make_J32
  refine r_aload_n hg 0 d_Model_make_32 rfl rfl ?_
  refine r_iconst (v := 2) hg d_Model_make_33 (by decide) ?_
  refine r_callV (As := [.int 2]) hg (t_Model_fails 2 μ) v_Model_fails c_Model rfl (by decide) rfl wm_Model_93 d_Model_make_34 rfl ⟨by decide, by decide⟩ (Nat.le_of_ble_eq_true rfl) rfl (fun r34 μ_34 _ => ?_)
  exact r_iret hg hA rfl d_Model_make_37 rfl
theorem t_Model_make_J91 {cx : HCx} (hg : HGood cx R_Model b_Model_make 7 3 (some .int)) (hA : h_own cx)  (rec_ : Int32 → Int32 → Int32 → Int32 → Int32 → Int32 → HMem → Option (Int32 × HMem)) (hrec_ : p_Model_make_60 cx rec_) (v1 : Int32) (v2 : Int32) (v3 : Int32) (v4 : Int32) (v5 : Int32) (v6 : Int32) (μ : HMem) : HX cx (HQ cx h_eI) (f_Model_make_J91  rec_ v1 v2 v3 v4 v5 v6 μ) 0 0 91 [(0, .ref 125), (1, .int v1), (2, .int v2), (3, .int v3), (4, .int v4), (5, .int v5), (6, .int v6)] [] μ := by
  unfold f_Model_make_J91
  refine r_letE (fun v6_91 he_91 => ?_)
  refine r_iinc (v := v6_91) (l' := [(6, .int v6_91), (0, .ref 125), (1, .int v1), (2, .int v2), (3, .int v3), (4, .int v4), (5, .int v5)]) hg 6 d_Model_make_91 rfl he_91 (Nat.le_of_ble_eq_true rfl) rfl ?_
  refine r_goto (tgt := 60) hg d_Model_make_94 (by decide) ?_
  refine r_sub [1, 2, 3, 4, 5, 6, 0] rfl ?_
  exact hrec_ v1 v2 v3 v4 v5 v6_91 μ
theorem t_Model_make_L60_b {cx : HCx} (hg : HGood cx R_Model b_Model_make 7 3 (some .int)) (hA : h_own cx) (K97 : Int32 → Int32 → Int32 → Int32 → Int32 → HMem → Option (Int32 × HMem)) (hK97 : p_Model_make_97 cx K97) (rec_ : Int32 → Int32 → Int32 → Int32 → Int32 → Int32 → HMem → Option (Int32 × HMem)) (hrec_ : p_Model_make_60 cx rec_) (v1 : Int32) (v2 : Int32) (v3 : Int32) (v4 : Int32) (v5 : Int32) (v6 : Int32) (μ : HMem) : HX cx (HQ cx h_eI) (f_Model_make_L60_b K97 rec_ v1 v2 v3 v4 v5 v6 μ) 0 0 60 [(0, .ref 125), (1, .int v1), (2, .int v2), (3, .int v3), (4, .int v4), (5, .int v5), (6, .int v6)] [] μ := by
  unfold f_Model_make_L60_b
  refine r_iload hg 6 d_Model_make_60 rfl ?_
  refine r_iload_n hg 3 d_Model_make_62 rfl rfl ?_
  refine r_icmp_ge (tgt := 97) hg d_Model_make_63 (by decide) ?_ ?_
  · refine r_sub [0, 1, 2, 3, 4, 5] rfl ?_
    exact hK97 v1 v2 v3 v4 v5 μ
  · refine r_iload_n hg 2 d_Model_make_66 rfl rfl ?_
    refine r_iload_n hg 3 d_Model_make_67 rfl rfl ?_
    refine r_iload hg 5 d_Model_make_68 rfl ?_
    refine r_iload hg 6 d_Model_make_70 rfl ?_
    refine r_callS (As := [.int v2, .int v3, .int v5, .int v6]) hg (t_Model_isOf v2 v3 v5 v6 μ) v_Model_isOf wm_Model_115 d_Model_make_72 rfl ⟨by decide, by decide⟩ (Nat.le_of_ble_eq_true rfl) rfl (fun r72 μ_72 _ => ?_)
    refine r_if_eq (tgt := 91) hg d_Model_make_75 (by decide) ?_ ?_
    · exact t_Model_make_J91 hg hA rec_ hrec_ v1 v2 v3 v4 v5 v6 μ_72
    · refine r_aload_n hg 0 d_Model_make_78 rfl rfl ?_
      refine r_iconst (v := 4) hg d_Model_make_79 (by decide) ?_
      refine r_iload hg 5 d_Model_make_80 rfl ?_
      refine r_iload hg 6 d_Model_make_82 rfl ?_
      refine r_iconst (v := 1) hg d_Model_make_84 (by decide) ?_
      refine r_callV (As := [.int 4, .int v5, .int v6, .int 1]) hg (t_Model_puts 4 v5 v6 1 μ_72) v_Model_puts c_Model rfl (by decide) rfl wm_Model_111 d_Model_make_85 rfl ⟨by decide, by decide⟩ (Nat.le_of_ble_eq_true rfl) rfl (fun r85 μ_85 _ => ?_)
      refine r_letE (fun v4_88 he_88 => ?_)
      refine r_iinc (v := v4_88) (l' := [(4, .int v4_88), (0, .ref 125), (1, .int v1), (2, .int v2), (3, .int v3), (5, .int v5), (6, .int v6)]) hg 4 d_Model_make_88 rfl he_88 (Nat.le_of_ble_eq_true rfl) rfl ?_
      refine r_sub [1, 2, 3, 4, 0, 5, 6] rfl ?_
      exact t_Model_make_J91 hg hA rec_ hrec_ v1 v2 v3 v4_88 v5 v6 μ_85
theorem t_Model_make_L60 {cx : HCx} (hg : HGood cx R_Model b_Model_make 7 3 (some .int)) (hA : h_own cx) (K97 : Int32 → Int32 → Int32 → Int32 → Int32 → HMem → Option (Int32 × HMem)) (hK97 : p_Model_make_97 cx K97) : ∀ (fuel : Nat) (v1 : Int32) (v2 : Int32) (v3 : Int32) (v4 : Int32) (v5 : Int32) (v6 : Int32) (μ : HMem), HX cx (HQ cx h_eI) (f_Model_make_L60 K97 fuel v1 v2 v3 v4 v5 v6 μ) 0 0 60 [(0, .ref 125), (1, .int v1), (2, .int v2), (3, .int v3), (4, .int v4), (5, .int v5), (6, .int v6)] [] μ
  | 0, _, _, _, _, _, _, _ => by unfold f_Model_make_L60; exact HX.none
  | fuel + 1, v1, v2, v3, v4, v5, v6, μ => by
    rw [f_Model_make_L60]
    exact t_Model_make_L60_b hg hA  K97 hK97 (f_Model_make_L60 K97 fuel) (t_Model_make_L60 hg hA  K97 hK97 fuel) v1 v2 v3 v4 v5 v6 μ
theorem t_Model_make_J97 {cx : HCx} (hg : HGood cx R_Model b_Model_make 7 3 (some .int)) (hA : h_own cx)  (rec_ : Int32 → Int32 → Int32 → Int32 → Int32 → HMem → Option (Int32 × HMem)) (hrec_ : p_Model_make_50 cx rec_) (v1 : Int32) (v2 : Int32) (v3 : Int32) (v4 : Int32) (v5 : Int32) (μ : HMem) : HX cx (HQ cx h_eI) (f_Model_make_J97  rec_ v1 v2 v3 v4 v5 μ) 0 0 97 [(0, .ref 125), (1, .int v1), (2, .int v2), (3, .int v3), (4, .int v4), (5, .int v5)] [] μ := by
  unfold f_Model_make_J97
  refine r_letE (fun v5_97 he_97 => ?_)
  refine r_iinc (v := v5_97) (l' := [(5, .int v5_97), (0, .ref 125), (1, .int v1), (2, .int v2), (3, .int v3), (4, .int v4)]) hg 5 d_Model_make_97 rfl he_97 (Nat.le_of_ble_eq_true rfl) rfl ?_
  refine r_goto (tgt := 50) hg d_Model_make_100 (by decide) ?_
  refine r_sub [1, 2, 3, 4, 5, 0] rfl ?_
  exact hrec_ v1 v2 v3 v4 v5_97 μ
theorem t_Model_make_L50_b {cx : HCx} (hg : HGood cx R_Model b_Model_make 7 3 (some .int)) (hA : h_own cx) (K103 : Int32 → Int32 → HMem → Option (Int32 × HMem)) (hK103 : p_Model_make_103 cx K103) (rec_ : Int32 → Int32 → Int32 → Int32 → Int32 → HMem → Option (Int32 × HMem)) (hrec_ : p_Model_make_50 cx rec_) (v1 : Int32) (v2 : Int32) (v3 : Int32) (v4 : Int32) (v5 : Int32) (μ : HMem) : HX cx (HQ cx h_eI) (f_Model_make_L50_b K103 rec_ v1 v2 v3 v4 v5 μ) 0 0 50 [(0, .ref 125), (1, .int v1), (2, .int v2), (3, .int v3), (4, .int v4), (5, .int v5)] [] μ := by
  unfold f_Model_make_L50_b
  refine r_iload hg 5 d_Model_make_50 rfl ?_
  refine r_iload_n hg 3 d_Model_make_52 rfl rfl ?_
  refine r_icmp_ge (tgt := 103) hg d_Model_make_53 (by decide) ?_ ?_
  · refine r_sub [0, 1, 4] rfl ?_
    exact hK103 v1 v4 μ
  · refine r_iload hg 5 d_Model_make_56 rfl ?_
    refine r_istore (l' := [(6, .int v5), (0, .ref 125), (1, .int v1), (2, .int v2), (3, .int v3), (4, .int v4), (5, .int v5)]) hg d_Model_make_58 (Nat.le_of_ble_eq_true rfl) rfl ?_
    refine r_sub [1, 2, 3, 4, 5, 6, 0] rfl ?_
    exact t_Model_make_L60 hg hA (f_Model_make_J97 rec_) (t_Model_make_J97 hg hA rec_ hrec_) h_fuel v1 v2 v3 v4 v5 v5 μ
theorem t_Model_make_L50 {cx : HCx} (hg : HGood cx R_Model b_Model_make 7 3 (some .int)) (hA : h_own cx) (K103 : Int32 → Int32 → HMem → Option (Int32 × HMem)) (hK103 : p_Model_make_103 cx K103) : ∀ (fuel : Nat) (v1 : Int32) (v2 : Int32) (v3 : Int32) (v4 : Int32) (v5 : Int32) (μ : HMem), HX cx (HQ cx h_eI) (f_Model_make_L50 K103 fuel v1 v2 v3 v4 v5 μ) 0 0 50 [(0, .ref 125), (1, .int v1), (2, .int v2), (3, .int v3), (4, .int v4), (5, .int v5)] [] μ
  | 0, _, _, _, _, _, _ => by unfold f_Model_make_L50; exact HX.none
  | fuel + 1, v1, v2, v3, v4, v5, μ => by
    rw [f_Model_make_L50]
    exact t_Model_make_L50_b hg hA  K103 hK103 (f_Model_make_L50 K103 fuel) (t_Model_make_L50 hg hA  K103 hK103 fuel) v1 v2 v3 v4 v5 μ
theorem t_Model_make_J103 {cx : HCx} (hg : HGood cx R_Model b_Model_make 7 3 (some .int)) (hA : h_own cx)   (v1 : Int32) (v4 : Int32) (μ : HMem) : HX cx (HQ cx h_eI) (f_Model_make_J103   v1 v4 μ) 0 0 103 [(0, .ref 125), (1, .int v1), (4, .int v4)] [] μ := by
  unfold f_Model_make_J103
  refine r_aload_n hg 0 d_Model_make_103 rfl rfl ?_
  refine r_iload_n hg 1 d_Model_make_104 rfl rfl ?_
  refine r_callV (As := [.int v1]) hg (t_Model_keeps v1 μ) v_Model_keeps c_Model rfl (by decide) rfl wm_Model_99 d_Model_make_105 rfl ⟨by decide, by decide⟩ (Nat.le_of_ble_eq_true rfl) rfl (fun r105 μ_105 _ => ?_)
  refine r_iload hg 2 d_Model_make_108 rfl ?_
  exact r_iret hg hA rfl d_Model_make_110 rfl
theorem t_Model_make_0 {cx : HCx} (hg : HGood cx R_Model b_Model_make 7 3 (some .int)) (hA : h_own cx) (v1 : Int32) (v2 : Int32) (v3 : Int32) (μ : HMem) : HX cx (HQ cx h_eI) (f_Model_make v1 v2 v3 μ) 0 0 0 [(0, .ref 125), (1, .int v1), (2, .int v2), (3, .int v3)] [] μ := by
  unfold f_Model_make
  refine r_iload_n hg 1 d_Model_make_0 rfl rfl ?_
  refine r_callS (As := [.int v1]) hg (t_Model_isGraph v1 μ) v_Model_isGraph wm_Model_71 d_Model_make_1 rfl ⟨by decide, by decide⟩ (Nat.le_of_ble_eq_true rfl) rfl (fun r1 μ_1 _ => ?_)
  refine r_if_ne (tgt := 13) hg d_Model_make_4 (by decide) ?_ ?_
  · refine r_iload_n hg 2 d_Model_make_13 rfl rfl ?_
    refine r_iconst (v := 0) hg d_Model_make_14 (by decide) ?_
    refine r_iconst (v := 4) hg d_Model_make_15 (by decide) ?_
    refine r_callS (As := [.int v2, .int 0, .int 4]) hg (t_Model_in v2 0 4 μ_1) v_Model_in wm_Model_67 d_Model_make_16 rfl ⟨by decide, by decide⟩ (Nat.le_of_ble_eq_true rfl) rfl (fun r16 μ_16 _ => ?_)
    refine r_if_eq (tgt := 32) hg d_Model_make_19 (by decide) ?_ ?_
    · refine r_sub [0] rfl ?_
      exact t_Model_make_J32 hg hA μ_16
    · refine r_iload_n hg 3 d_Model_make_22 rfl rfl ?_
      refine r_iconst (v := 0) hg d_Model_make_23 (by decide) ?_
      refine r_bipush (v := 8) hg d_Model_make_24 (by decide) ?_
      refine r_callS (As := [.int v3, .int 0, .int 8]) hg (t_Model_in v3 0 8 μ_16) v_Model_in wm_Model_67 d_Model_make_26 rfl ⟨by decide, by decide⟩ (Nat.le_of_ble_eq_true rfl) rfl (fun r26 μ_26 _ => ?_)
      refine r_if_ne (tgt := 38) hg d_Model_make_29 (by decide) ?_ ?_
      · refine r_aload_n hg 0 d_Model_make_38 rfl rfl ?_
        refine r_iconst (v := 4) hg d_Model_make_39 (by decide) ?_
        refine r_iload_n hg 3 d_Model_make_40 rfl rfl ?_
        refine r_callV (As := [.int 4, .int v3]) hg (t_Model_begins 4 v3 μ_26) v_Model_begins c_Model rfl (by decide) rfl wm_Model_96 d_Model_make_41 rfl ⟨by decide, by decide⟩ (Nat.le_of_ble_eq_true rfl) rfl (fun r41 μ_41 _ => ?_)
        refine r_iconst (v := 0) hg d_Model_make_44 (by decide) ?_
        refine r_istore (l' := [(4, .int 0), (0, .ref 125), (1, .int v1), (2, .int v2), (3, .int v3)]) hg d_Model_make_45 (Nat.le_of_ble_eq_true rfl) rfl ?_
        refine r_iconst (v := 0) hg d_Model_make_47 (by decide) ?_
        refine r_istore (l' := [(5, .int 0), (4, .int 0), (0, .ref 125), (1, .int v1), (2, .int v2), (3, .int v3)]) hg d_Model_make_48 (Nat.le_of_ble_eq_true rfl) rfl ?_
        refine r_sub [2, 3, 4, 5, 1, 0] rfl ?_
        exact t_Model_make_L50 hg hA f_Model_make_J103 (t_Model_make_J103 hg hA) h_fuel v1 v2 v3 0 0 μ_41
      · refine r_sub [0] rfl ?_
        exact t_Model_make_J32 hg hA μ_26
  · refine r_aload_n hg 0 d_Model_make_7 rfl rfl ?_
    refine r_iconst (v := 1) hg d_Model_make_8 (by decide) ?_
    refine r_callV (As := [.int 1]) hg (t_Model_fails 1 μ_1) v_Model_fails c_Model rfl (by decide) rfl wm_Model_93 d_Model_make_9 rfl ⟨by decide, by decide⟩ (Nat.le_of_ble_eq_true rfl) rfl (fun r9 μ_9 _ => ?_)
    exact r_iret hg hA rfl d_Model_make_12 rfl
theorem t_Model_make (v1 : Int32) (v2 : Int32) (v3 : Int32) (μ : HMem) : HSpec y_Model_make b_Model_make 7 (some .int) 3 h_eI [.ref 125, .int v1, .int v2, .int v3] μ (f_Model_make v1 v2 v3 μ) :=
  HSpec.of (by decide +kernel) (v_Model_make.1 _ (by simp)) (Nat.le_of_ble_eq_true rfl) (fun cx hA hg => t_Model_make_0 hg hA v1 v2 v3 μ)
theorem t_Model_random_J44 {cx : HCx} (hg : HGood cx R_Model b_Model_random 10 3 (some .int)) (hA : h_own cx)    (μ : HMem) : HX cx (HQ cx h_eI) (f_Model_random_J44   μ) 0 0 44 [(0, .ref 125)] [] μ := by
  unfold f_Model_random_J44
  refine r_aload_n hg 0 d_Model_random_44 rfl rfl ?_
  refine r_iconst (v := 2) hg d_Model_random_45 (by decide) ?_
  refine r_callV (As := [.int 2]) hg (t_Model_fails 2 μ) v_Model_fails c_Model rfl (by decide) rfl wm_Model_93 d_Model_random_46 rfl ⟨by decide, by decide⟩ (Nat.le_of_ble_eq_true rfl) rfl (fun r46 μ_46 _ => ?_)
  exact r_iret hg hA rfl d_Model_random_49 rfl
theorem t_Model_random_J128 {cx : HCx} (hg : HGood cx R_Model b_Model_random 10 3 (some .int)) (hA : h_own cx)  (rec_ : Int32 → Int32 → Int32 → Int64 → Int32 → Int32 → Int32 → HMem → Option (Int32 × HMem)) (hrec_ : p_Model_random_75 cx rec_) (v1 : Int32) (v2 : Int32) (v4 : Int32) (v5 : Int64) (v7 : Int32) (v8 : Int32) (v9 : Int32) (μ : HMem) : HX cx (HQ cx h_eI) (f_Model_random_J128  rec_ v1 v2 v4 v5 v7 v8 v9 μ) 0 0 128 [(0, .ref 125), (1, .int v1), (2, .int v2), (4, .int v4), (5, .long v5), (7, .int v7), (8, .int v8), (9, .int v9)] [] μ := by
  unfold f_Model_random_J128
  refine r_letE (fun v9_128 he_128 => ?_)
  refine r_iinc (v := v9_128) (l' := [(9, .int v9_128), (0, .ref 125), (1, .int v1), (2, .int v2), (4, .int v4), (5, .long v5), (7, .int v7), (8, .int v8)]) hg 7 d_Model_random_128 rfl he_128 (Nat.le_of_ble_eq_true rfl) rfl ?_
  refine r_goto (tgt := 75) hg d_Model_random_131 (by decide) ?_
  refine r_sub [1, 2, 3, 4, 5, 6, 7, 0] rfl ?_
  exact hrec_ v1 v2 v4 v5 v7 v8 v9_128 μ
theorem t_Model_random_L75_b {cx : HCx} (hg : HGood cx R_Model b_Model_random 10 3 (some .int)) (hA : h_own cx) (K134 : Int32 → Int32 → Int32 → Int64 → Int32 → Int32 → HMem → Option (Int32 × HMem)) (hK134 : p_Model_random_134 cx K134) (rec_ : Int32 → Int32 → Int32 → Int64 → Int32 → Int32 → Int32 → HMem → Option (Int32 × HMem)) (hrec_ : p_Model_random_75 cx rec_) (v1 : Int32) (v2 : Int32) (v4 : Int32) (v5 : Int64) (v7 : Int32) (v8 : Int32) (v9 : Int32) (μ : HMem) : HX cx (HQ cx h_eI) (f_Model_random_L75_b K134 rec_ v1 v2 v4 v5 v7 v8 v9 μ) 0 0 75 [(0, .ref 125), (1, .int v1), (2, .int v2), (4, .int v4), (5, .long v5), (7, .int v7), (8, .int v8), (9, .int v9)] [] μ := by
  unfold f_Model_random_L75_b
  refine r_iload hg 7 d_Model_random_75 rfl ?_
  refine r_iload hg 6 d_Model_random_77 rfl ?_
  refine r_icmp_ge (tgt := 134) hg d_Model_random_79 (by decide) ?_ ?_
  · refine r_sub [0, 1, 2, 3, 4, 5, 6] rfl ?_
    exact hK134 v1 v2 v4 v5 v7 v8 μ
  · refine r_ldc2 hg wc_Model_120 d_Model_random_82 ?_
    refine r_lload hg 4 d_Model_random_85 rfl ?_
    refine r_lmul hg d_Model_random_87 ?_
    refine r_ldc2 hg wc_Model_122 d_Model_random_88 ?_
    refine r_ladd hg d_Model_random_91 ?_
    refine r_ldc2 hg wc_Model_124 d_Model_random_92 ?_
    refine r_lrem hg d_Model_random_95 ?_
    refine r_letJ (fun v5_96 => ?_)
    refine r_lstore (l' := [(5, .long v5_96), (0, .ref 125), (1, .int v1), (2, .int v2), (4, .int v4), (7, .int v7), (8, .int v8), (9, .int v9)]) hg d_Model_random_96 (Nat.le_of_ble_eq_true rfl) rfl ?_
    refine r_lload hg 0 d_Model_random_98 rfl ?_
    refine r_ldc2 hg wc_Model_126 d_Model_random_100 ?_
    refine r_ldiv hg d_Model_random_103 ?_
    refine r_ldc2 hg wc_Model_128 d_Model_random_104 ?_
    refine r_lrem hg d_Model_random_107 ?_
    refine r_iload hg 4 d_Model_random_108 rfl ?_
    refine r_i2l hg d_Model_random_110 ?_
    refine r_lcmp hg d_Model_random_111 ?_
    refine r_if_ge (tgt := 128) hg d_Model_random_112 (by decide) ?_ ?_
    · refine r_sub [1, 2, 3, 4, 0, 5, 6, 7] rfl ?_
      exact t_Model_random_J128 hg hA rec_ hrec_ v1 v2 v4 v5_96 v7 v8 v9 μ
    · refine r_aload_n hg 1 d_Model_random_115 rfl rfl ?_
      refine r_iconst (v := 4) hg d_Model_random_116 (by decide) ?_
      refine r_iload hg 6 d_Model_random_117 rfl ?_
      refine r_iload hg 7 d_Model_random_119 rfl ?_
      refine r_iconst (v := 1) hg d_Model_random_121 (by decide) ?_
      refine r_callV (As := [.int 4, .int v8, .int v9, .int 1]) hg (t_Model_puts 4 v8 v9 1 μ) v_Model_puts c_Model rfl (by decide) rfl wm_Model_111 d_Model_random_122 rfl ⟨by decide, by decide⟩ (Nat.le_of_ble_eq_true rfl) rfl (fun r122 μ_122 _ => ?_)
      refine r_letE (fun v7_125 he_125 => ?_)
      refine r_iinc (v := v7_125) (l' := [(7, .int v7_125), (5, .long v5_96), (0, .ref 125), (1, .int v1), (2, .int v2), (4, .int v4), (8, .int v8), (9, .int v9)]) hg 5 d_Model_random_125 rfl he_125 (Nat.le_of_ble_eq_true rfl) rfl ?_
      refine r_sub [2, 3, 4, 5, 1, 0, 6, 7] rfl ?_
      exact t_Model_random_J128 hg hA rec_ hrec_ v1 v2 v4 v5_96 v7_125 v8 v9 μ_122
theorem t_Model_random_L75 {cx : HCx} (hg : HGood cx R_Model b_Model_random 10 3 (some .int)) (hA : h_own cx) (K134 : Int32 → Int32 → Int32 → Int64 → Int32 → Int32 → HMem → Option (Int32 × HMem)) (hK134 : p_Model_random_134 cx K134) : ∀ (fuel : Nat) (v1 : Int32) (v2 : Int32) (v4 : Int32) (v5 : Int64) (v7 : Int32) (v8 : Int32) (v9 : Int32) (μ : HMem), HX cx (HQ cx h_eI) (f_Model_random_L75 K134 fuel v1 v2 v4 v5 v7 v8 v9 μ) 0 0 75 [(0, .ref 125), (1, .int v1), (2, .int v2), (4, .int v4), (5, .long v5), (7, .int v7), (8, .int v8), (9, .int v9)] [] μ
  | 0, _, _, _, _, _, _, _, _ => by unfold f_Model_random_L75; exact HX.none
  | fuel + 1, v1, v2, v4, v5, v7, v8, v9, μ => by
    rw [f_Model_random_L75]
    exact t_Model_random_L75_b hg hA  K134 hK134 (f_Model_random_L75 K134 fuel) (t_Model_random_L75 hg hA  K134 hK134 fuel) v1 v2 v4 v5 v7 v8 v9 μ
theorem t_Model_random_J134 {cx : HCx} (hg : HGood cx R_Model b_Model_random 10 3 (some .int)) (hA : h_own cx)  (rec_ : Int32 → Int32 → Int32 → Int64 → Int32 → Int32 → HMem → Option (Int32 × HMem)) (hrec_ : p_Model_random_66 cx rec_) (v1 : Int32) (v2 : Int32) (v4 : Int32) (v5 : Int64) (v7 : Int32) (v8 : Int32) (μ : HMem) : HX cx (HQ cx h_eI) (f_Model_random_J134  rec_ v1 v2 v4 v5 v7 v8 μ) 0 0 134 [(0, .ref 125), (1, .int v1), (2, .int v2), (4, .int v4), (5, .long v5), (7, .int v7), (8, .int v8)] [] μ := by
  unfold f_Model_random_J134
  refine r_letE (fun v8_134 he_134 => ?_)
  refine r_iinc (v := v8_134) (l' := [(8, .int v8_134), (0, .ref 125), (1, .int v1), (2, .int v2), (4, .int v4), (5, .long v5), (7, .int v7)]) hg 6 d_Model_random_134 rfl he_134 (Nat.le_of_ble_eq_true rfl) rfl ?_
  refine r_goto (tgt := 66) hg d_Model_random_137 (by decide) ?_
  refine r_sub [1, 2, 3, 4, 5, 6, 0] rfl ?_
  exact hrec_ v1 v2 v4 v5 v7 v8_134 μ
theorem t_Model_random_L66_b {cx : HCx} (hg : HGood cx R_Model b_Model_random 10 3 (some .int)) (hA : h_own cx) (K140 : Int32 → Int32 → HMem → Option (Int32 × HMem)) (hK140 : p_Model_random_140 cx K140) (rec_ : Int32 → Int32 → Int32 → Int64 → Int32 → Int32 → HMem → Option (Int32 × HMem)) (hrec_ : p_Model_random_66 cx rec_) (v1 : Int32) (v2 : Int32) (v4 : Int32) (v5 : Int64) (v7 : Int32) (v8 : Int32) (μ : HMem) : HX cx (HQ cx h_eI) (f_Model_random_L66_b K140 rec_ v1 v2 v4 v5 v7 v8 μ) 0 0 66 [(0, .ref 125), (1, .int v1), (2, .int v2), (4, .int v4), (5, .long v5), (7, .int v7), (8, .int v8)] [] μ := by
  unfold f_Model_random_L66_b
  refine r_iload hg 6 d_Model_random_66 rfl ?_
  refine r_iload_n hg 2 d_Model_random_68 rfl rfl ?_
  refine r_icmp_ge (tgt := 140) hg d_Model_random_69 (by decide) ?_ ?_
  · refine r_sub [0, 1, 5] rfl ?_
    exact hK140 v1 v7 μ
  · refine r_iconst (v := 0) hg d_Model_random_72 (by decide) ?_
    refine r_istore (l' := [(9, .int 0), (0, .ref 125), (1, .int v1), (2, .int v2), (4, .int v4), (5, .long v5), (7, .int v7), (8, .int v8)]) hg d_Model_random_73 (Nat.le_of_ble_eq_true rfl) rfl ?_
    refine r_sub [1, 2, 3, 4, 5, 6, 7, 0] rfl ?_
    exact t_Model_random_L75 hg hA (f_Model_random_J134 rec_) (t_Model_random_J134 hg hA rec_ hrec_) h_fuel v1 v2 v4 v5 v7 v8 0 μ
theorem t_Model_random_L66 {cx : HCx} (hg : HGood cx R_Model b_Model_random 10 3 (some .int)) (hA : h_own cx) (K140 : Int32 → Int32 → HMem → Option (Int32 × HMem)) (hK140 : p_Model_random_140 cx K140) : ∀ (fuel : Nat) (v1 : Int32) (v2 : Int32) (v4 : Int32) (v5 : Int64) (v7 : Int32) (v8 : Int32) (μ : HMem), HX cx (HQ cx h_eI) (f_Model_random_L66 K140 fuel v1 v2 v4 v5 v7 v8 μ) 0 0 66 [(0, .ref 125), (1, .int v1), (2, .int v2), (4, .int v4), (5, .long v5), (7, .int v7), (8, .int v8)] [] μ
  | 0, _, _, _, _, _, _, _ => by unfold f_Model_random_L66; exact HX.none
  | fuel + 1, v1, v2, v4, v5, v7, v8, μ => by
    rw [f_Model_random_L66]
    exact t_Model_random_L66_b hg hA  K140 hK140 (f_Model_random_L66 K140 fuel) (t_Model_random_L66 hg hA  K140 hK140 fuel) v1 v2 v4 v5 v7 v8 μ
theorem t_Model_random_J140 {cx : HCx} (hg : HGood cx R_Model b_Model_random 10 3 (some .int)) (hA : h_own cx)   (v1 : Int32) (v7 : Int32) (μ : HMem) : HX cx (HQ cx h_eI) (f_Model_random_J140   v1 v7 μ) 0 0 140 [(0, .ref 125), (1, .int v1), (7, .int v7)] [] μ := by
  unfold f_Model_random_J140
  refine r_aload_n hg 0 d_Model_random_140 rfl rfl ?_
  refine r_iload_n hg 1 d_Model_random_141 rfl rfl ?_
  refine r_callV (As := [.int v1]) hg (t_Model_keeps v1 μ) v_Model_keeps c_Model rfl (by decide) rfl wm_Model_99 d_Model_random_142 rfl ⟨by decide, by decide⟩ (Nat.le_of_ble_eq_true rfl) rfl (fun r142 μ_142 _ => ?_)
  refine r_iload hg 2 d_Model_random_145 rfl ?_
  exact r_iret hg hA rfl d_Model_random_147 rfl
theorem t_Model_random_0 {cx : HCx} (hg : HGood cx R_Model b_Model_random 10 3 (some .int)) (hA : h_own cx) (v1 : Int32) (v2 : Int32) (v3 : Int32) (v4 : Int32) (μ : HMem) : HX cx (HQ cx h_eI) (f_Model_random v1 v2 v3 v4 μ) 0 0 0 [(0, .ref 125), (1, .int v1), (2, .int v2), (3, .int v3), (4, .int v4)] [] μ := by
  unfold f_Model_random
  refine r_iload_n hg 1 d_Model_random_0 rfl rfl ?_
  refine r_callS (As := [.int v1]) hg (t_Model_isGraph v1 μ) v_Model_isGraph wm_Model_71 d_Model_random_1 rfl ⟨by decide, by decide⟩ (Nat.le_of_ble_eq_true rfl) rfl (fun r1 μ_1 _ => ?_)
  refine r_if_ne (tgt := 13) hg d_Model_random_4 (by decide) ?_ ?_
  · refine r_iload_n hg 2 d_Model_random_13 rfl rfl ?_
    refine r_iconst (v := 0) hg d_Model_random_14 (by decide) ?_
    refine r_bipush (v := 8) hg d_Model_random_15 (by decide) ?_
    refine r_callS (As := [.int v2, .int 0, .int 8]) hg (t_Model_in v2 0 8 μ_1) v_Model_in wm_Model_67 d_Model_random_17 rfl ⟨by decide, by decide⟩ (Nat.le_of_ble_eq_true rfl) rfl (fun r17 μ_17 _ => ?_)
    refine r_if_eq (tgt := 44) hg d_Model_random_20 (by decide) ?_ ?_
    · refine r_sub [0] rfl ?_
      exact t_Model_random_J44 hg hA μ_17
    · refine r_iload_n hg 3 d_Model_random_23 rfl rfl ?_
      refine r_iconst (v := 0) hg d_Model_random_24 (by decide) ?_
      refine r_ldc hg wc_Model_119 d_Model_random_25 ?_
      refine r_callS (As := [.int v3, .int 0, .int 999999]) hg (t_Model_in v3 0 999999 μ_17) v_Model_in wm_Model_67 d_Model_random_27 rfl ⟨by decide, by decide⟩ (Nat.le_of_ble_eq_true rfl) rfl (fun r27 μ_27 _ => ?_)
      refine r_if_eq (tgt := 44) hg d_Model_random_30 (by decide) ?_ ?_
      · refine r_sub [0] rfl ?_
        exact t_Model_random_J44 hg hA μ_27
      · refine r_iload hg 4 d_Model_random_33 rfl ?_
        refine r_iconst (v := 0) hg d_Model_random_35 (by decide) ?_
        refine r_bipush (v := 100) hg d_Model_random_36 (by decide) ?_
        refine r_callS (As := [.int v4, .int 0, .int 100]) hg (t_Model_in v4 0 100 μ_27) v_Model_in wm_Model_67 d_Model_random_38 rfl ⟨by decide, by decide⟩ (Nat.le_of_ble_eq_true rfl) rfl (fun r38 μ_38 _ => ?_)
        refine r_if_ne (tgt := 50) hg d_Model_random_41 (by decide) ?_ ?_
        · refine r_aload_n hg 0 d_Model_random_50 rfl rfl ?_
          refine r_iconst (v := 4) hg d_Model_random_51 (by decide) ?_
          refine r_iload_n hg 2 d_Model_random_52 rfl rfl ?_
          refine r_callV (As := [.int 4, .int v2]) hg (t_Model_begins 4 v2 μ_38) v_Model_begins c_Model rfl (by decide) rfl wm_Model_96 d_Model_random_53 rfl ⟨by decide, by decide⟩ (Nat.le_of_ble_eq_true rfl) rfl (fun r53 μ_53 _ => ?_)
          refine r_iload_n hg 3 d_Model_random_56 rfl rfl ?_
          refine r_i2l hg d_Model_random_57 ?_
          refine r_letJ (fun v5_58 => ?_)
          refine r_lstore (l' := [(5, .long v5_58), (0, .ref 125), (1, .int v1), (2, .int v2), (3, .int v3), (4, .int v4)]) hg d_Model_random_58 (Nat.le_of_ble_eq_true rfl) rfl ?_
          refine r_iconst (v := 0) hg d_Model_random_60 (by decide) ?_
          refine r_istore (l' := [(7, .int 0), (5, .long v5_58), (0, .ref 125), (1, .int v1), (2, .int v2), (3, .int v3), (4, .int v4)]) hg d_Model_random_61 (Nat.le_of_ble_eq_true rfl) rfl ?_
          refine r_iconst (v := 0) hg d_Model_random_63 (by decide) ?_
          refine r_istore (l' := [(8, .int 0), (7, .int 0), (5, .long v5_58), (0, .ref 125), (1, .int v1), (2, .int v2), (3, .int v3), (4, .int v4)]) hg d_Model_random_64 (Nat.le_of_ble_eq_true rfl) rfl ?_
          refine r_sub [3, 4, 5, 7, 2, 1, 0] rfl ?_
          exact t_Model_random_L66 hg hA f_Model_random_J140 (t_Model_random_J140 hg hA) h_fuel v1 v2 v4 v5_58 0 0 μ_53
        · refine r_sub [0] rfl ?_
          exact t_Model_random_J44 hg hA μ_38
  · refine r_aload_n hg 0 d_Model_random_7 rfl rfl ?_
    refine r_iconst (v := 1) hg d_Model_random_8 (by decide) ?_
    refine r_callV (As := [.int 1]) hg (t_Model_fails 1 μ_1) v_Model_fails c_Model rfl (by decide) rfl wm_Model_93 d_Model_random_9 rfl ⟨by decide, by decide⟩ (Nat.le_of_ble_eq_true rfl) rfl (fun r9 μ_9 _ => ?_)
    exact r_iret hg hA rfl d_Model_random_12 rfl
theorem t_Model_random (v1 : Int32) (v2 : Int32) (v3 : Int32) (v4 : Int32) (μ : HMem) : HSpec y_Model_random b_Model_random 10 (some .int) 3 h_eI [.ref 125, .int v1, .int v2, .int v3, .int v4] μ (f_Model_random v1 v2 v3 v4 μ) :=
  HSpec.of (by decide +kernel) (v_Model_random.1 _ (by simp)) (Nat.le_of_ble_eq_true rfl) (fun cx hA hg => t_Model_random_0 hg hA v1 v2 v3 v4 μ)
theorem t_Model_limited_J21 {cx : HCx} (hg : HGood cx R_Model b_Model_limited 2 1 (some .int)) (hA : h_own cx)   (s0 : Int32) (μ : HMem) : HX cx (HQ cx h_eI) (f_Model_limited_J21   s0 μ) 0 0 21 [] [.int s0] μ := by
  unfold f_Model_limited_J21
  exact r_iret hg hA rfl d_Model_limited_21 rfl
theorem t_Model_limited_0 {cx : HCx} (hg : HGood cx R_Model b_Model_limited 2 1 (some .int)) (hA : h_own cx) (v0 : Int32) (v1 : Int32) (μ : HMem) : HX cx (HQ cx h_eI) (f_Model_limited v0 v1 μ) 0 0 0 [(0, .int v0), (1, .int v1)] [] μ := by
  unfold f_Model_limited
  refine r_iload_n hg 0 d_Model_limited_0 rfl rfl ?_
  refine r_iload_n hg 1 d_Model_limited_1 rfl rfl ?_
  refine r_icmp_le (tgt := 9) hg d_Model_limited_2 (by decide) ?_ ?_
  · refine r_iload_n hg 0 d_Model_limited_9 rfl rfl ?_
    refine r_iload_n hg 1 d_Model_limited_10 rfl rfl ?_
    refine r_ineg hg d_Model_limited_11 ?_
    refine r_icmp_ge (tgt := 20) hg d_Model_limited_12 (by decide) ?_ ?_
    · refine r_iload_n hg 0 d_Model_limited_20 rfl rfl ?_
      refine r_sub [] rfl ?_
      exact t_Model_limited_J21 hg hA v0 μ
    · refine r_iload_n hg 1 d_Model_limited_15 rfl rfl ?_
      refine r_ineg hg d_Model_limited_16 ?_
      refine r_goto (tgt := 21) hg d_Model_limited_17 (by decide) ?_
      refine r_sub [] rfl ?_
      exact t_Model_limited_J21 hg hA (-v1) μ
  · refine r_iload_n hg 1 d_Model_limited_5 rfl rfl ?_
    refine r_goto (tgt := 21) hg d_Model_limited_6 (by decide) ?_
    refine r_sub [] rfl ?_
    exact t_Model_limited_J21 hg hA v1 μ
theorem t_Model_limited (v0 : Int32) (v1 : Int32) (μ : HMem) : HSpec y_Model_limited b_Model_limited 2 (some .int) 1 h_eI [.int v0, .int v1] μ (f_Model_limited v0 v1 μ) :=
  HSpec.of (by decide +kernel) (v_Model_limited.1 _ (by simp)) (Nat.le_of_ble_eq_true rfl) (fun cx hA hg => t_Model_limited_0 hg hA v0 v1 μ)
theorem t_Model_unites_J128 {cx : HCx} (hg : HGood cx R_Model b_Model_unites 6 2 none) (hA : h_own cx)  (rec_ : Int32 → Int32 → Int32 → Int32 → Int32 → HMem → Option (Unit × HMem)) (hrec_ : p_Model_unites_71 cx rec_) (v1 : Int32) (v2 : Int32) (v3 : Int32) (v4 : Int32) (v5 : Int32) (s0 : Int32) (s1 : Int32) (s2 : Int32) (s3 : Int32) (μ : HMem) : HX cx (HQ cx h_eV) (f_Model_unites_J128  rec_ v1 v2 v3 v4 v5 s0 s1 s2 s3 μ) 0 0 128 [(0, .ref 125), (1, .int v1), (2, .int v2), (3, .int v3), (4, .int v4), (5, .int v5)] [.int s0, .int s1, .int s2, .int s3, .ref 125] μ := by
  unfold f_Model_unites_J128
  refine r_callV (As := [.int s3, .int s2, .int s1, .int s0]) hg (t_Model_puts s3 s2 s1 s0 μ) v_Model_puts c_Model rfl (by decide) rfl wm_Model_111 d_Model_unites_128 rfl ⟨by decide, by decide⟩ (Nat.le_of_ble_eq_true rfl) rfl (fun r128 μ_128 _ => ?_)
  refine r_letE (fun v5_131 he_131 => ?_)
  refine r_iinc (v := v5_131) (l' := [(5, .int v5_131), (0, .ref 125), (1, .int v1), (2, .int v2), (3, .int v3), (4, .int v4)]) hg 5 d_Model_unites_131 rfl he_131 (Nat.le_of_ble_eq_true rfl) rfl ?_
  refine r_goto (tgt := 71) hg d_Model_unites_134 (by decide) ?_
  refine r_sub [1, 2, 3, 4, 5, 0] rfl ?_
  exact hrec_ v1 v2 v3 v4 v5_131 μ_128
theorem t_Model_unites_L71_b {cx : HCx} (hg : HGood cx R_Model b_Model_unites 6 2 none) (hA : h_own cx) (K137 : Int32 → Int32 → Int32 → Int32 → HMem → Option (Unit × HMem)) (hK137 : p_Model_unites_137 cx K137) (rec_ : Int32 → Int32 → Int32 → Int32 → Int32 → HMem → Option (Unit × HMem)) (hrec_ : p_Model_unites_71 cx rec_) (v1 : Int32) (v2 : Int32) (v3 : Int32) (v4 : Int32) (v5 : Int32) (μ : HMem) : HX cx (HQ cx h_eV) (f_Model_unites_L71_b K137 rec_ v1 v2 v3 v4 v5 μ) 0 0 71 [(0, .ref 125), (1, .int v1), (2, .int v2), (3, .int v3), (4, .int v4), (5, .int v5)] [] μ := by
  unfold f_Model_unites_L71_b
  refine r_iload hg 5 d_Model_unites_71 rfl ?_
  refine r_aload_n hg 0 d_Model_unites_73 rfl rfl ?_
  refine r_iconst (v := 4) hg d_Model_unites_74 (by decide) ?_
  refine r_callV (As := [.int 4]) hg (t_Model_size 4 μ) v_Model_size c_Model rfl (by decide) rfl wm_Model_75 d_Model_unites_75 rfl ⟨by decide, by decide⟩ (Nat.le_of_ble_eq_true rfl) rfl (fun r75 μ_75 _ => ?_)
  refine r_icmp_ge (tgt := 137) hg d_Model_unites_78 (by decide) ?_ ?_
  · refine r_sub [0, 1, 2, 3, 4] rfl ?_
    exact hK137 v1 v2 v3 v4 μ_75
  · refine r_aload_n hg 0 d_Model_unites_81 rfl rfl ?_
    refine r_iconst (v := 4) hg d_Model_unites_82 (by decide) ?_
    refine r_iload hg 4 d_Model_unites_83 rfl ?_
    refine r_iload hg 5 d_Model_unites_85 rfl ?_
    refine r_iload hg 5 d_Model_unites_87 rfl ?_
    refine r_iload_n hg 3 d_Model_unites_89 rfl rfl ?_
    refine r_icmp_ge (tgt := 105) hg d_Model_unites_90 (by decide) ?_ ?_
    · refine r_iload hg 4 d_Model_unites_105 rfl ?_
      refine r_iload_n hg 3 d_Model_unites_107 rfl rfl ?_
      refine r_icmp_ge (tgt := 115) hg d_Model_unites_108 (by decide) ?_ ?_
      · refine r_aload_n hg 0 d_Model_unites_115 rfl rfl ?_
        refine r_iload_n hg 2 d_Model_unites_116 rfl rfl ?_
        refine r_iload hg 4 d_Model_unites_117 rfl ?_
        refine r_iload_n hg 3 d_Model_unites_119 rfl rfl ?_
        refine r_isub hg d_Model_unites_120 ?_
        refine r_iload hg 5 d_Model_unites_121 rfl ?_
        refine r_iload_n hg 3 d_Model_unites_123 rfl rfl ?_
        refine r_isub hg d_Model_unites_124 ?_
        refine r_callV (As := [.int v2, .int (v4 - v3), .int (v5 - v3)]) hg (t_Model_between v2 (v4 - v3) (v5 - v3) μ_75) v_Model_between c_Model rfl (by decide) rfl wm_Model_79 d_Model_unites_125 rfl ⟨by decide, by decide⟩ (Nat.le_of_ble_eq_true rfl) rfl (fun r125 μ_125 _ => ?_)
        exact t_Model_unites_J128 hg hA rec_ hrec_ v1 v2 v3 v4 v5 r125 v5 v4 4 μ_125
      · refine r_iconst (v := 0) hg d_Model_unites_111 (by decide) ?_
        refine r_goto (tgt := 128) hg d_Model_unites_112 (by decide) ?_
        exact t_Model_unites_J128 hg hA rec_ hrec_ v1 v2 v3 v4 v5 0 v5 v4 4 μ_75
    · refine r_aload_n hg 0 d_Model_unites_93 rfl rfl ?_
      refine r_iload_n hg 1 d_Model_unites_94 rfl rfl ?_
      refine r_iload hg 4 d_Model_unites_95 rfl ?_
      refine r_iload hg 5 d_Model_unites_97 rfl ?_
      refine r_callV (As := [.int v1, .int v4, .int v5]) hg (t_Model_between v1 v4 v5 μ_75) v_Model_between c_Model rfl (by decide) rfl wm_Model_79 d_Model_unites_99 rfl ⟨by decide, by decide⟩ (Nat.le_of_ble_eq_true rfl) rfl (fun r99 μ_99 _ => ?_)
      refine r_goto (tgt := 128) hg d_Model_unites_102 (by decide) ?_
      exact t_Model_unites_J128 hg hA rec_ hrec_ v1 v2 v3 v4 v5 r99 v5 v4 4 μ_99
theorem t_Model_unites_L71 {cx : HCx} (hg : HGood cx R_Model b_Model_unites 6 2 none) (hA : h_own cx) (K137 : Int32 → Int32 → Int32 → Int32 → HMem → Option (Unit × HMem)) (hK137 : p_Model_unites_137 cx K137) : ∀ (fuel : Nat) (v1 : Int32) (v2 : Int32) (v3 : Int32) (v4 : Int32) (v5 : Int32) (μ : HMem), HX cx (HQ cx h_eV) (f_Model_unites_L71 K137 fuel v1 v2 v3 v4 v5 μ) 0 0 71 [(0, .ref 125), (1, .int v1), (2, .int v2), (3, .int v3), (4, .int v4), (5, .int v5)] [] μ
  | 0, _, _, _, _, _, _ => by unfold f_Model_unites_L71; exact HX.none
  | fuel + 1, v1, v2, v3, v4, v5, μ => by
    rw [f_Model_unites_L71]
    exact t_Model_unites_L71_b hg hA  K137 hK137 (f_Model_unites_L71 K137 fuel) (t_Model_unites_L71 hg hA  K137 hK137 fuel) v1 v2 v3 v4 v5 μ
theorem t_Model_unites_J137 {cx : HCx} (hg : HGood cx R_Model b_Model_unites 6 2 none) (hA : h_own cx)  (rec_ : Int32 → Int32 → Int32 → Int32 → HMem → Option (Unit × HMem)) (hrec_ : p_Model_unites_21 cx rec_) (v1 : Int32) (v2 : Int32) (v3 : Int32) (v4 : Int32) (μ : HMem) : HX cx (HQ cx h_eV) (f_Model_unites_J137  rec_ v1 v2 v3 v4 μ) 0 0 137 [(0, .ref 125), (1, .int v1), (2, .int v2), (3, .int v3), (4, .int v4)] [] μ := by
  unfold f_Model_unites_J137
  refine r_letE (fun v4_137 he_137 => ?_)
  refine r_iinc (v := v4_137) (l' := [(4, .int v4_137), (0, .ref 125), (1, .int v1), (2, .int v2), (3, .int v3)]) hg 4 d_Model_unites_137 rfl he_137 (Nat.le_of_ble_eq_true rfl) rfl ?_
  refine r_goto (tgt := 21) hg d_Model_unites_140 (by decide) ?_
  refine r_sub [1, 2, 3, 4, 0] rfl ?_
  exact hrec_ v1 v2 v3 v4_137 μ
theorem t_Model_unites_J66 {cx : HCx} (hg : HGood cx R_Model b_Model_unites 6 2 none) (hA : h_own cx)  (rec_ : Int32 → Int32 → Int32 → Int32 → HMem → Option (Unit × HMem)) (hrec_ : p_Model_unites_21 cx rec_) (v1 : Int32) (v2 : Int32) (v3 : Int32) (v4 : Int32) (s0 : Int32) (s1 : Int32) (μ : HMem) : HX cx (HQ cx h_eV) (f_Model_unites_J66  rec_ v1 v2 v3 v4 s0 s1 μ) 0 0 66 [(0, .ref 125), (1, .int v1), (2, .int v2), (3, .int v3), (4, .int v4)] [.int s0, .int s1, .ref 126] μ := by
  unfold f_Model_unites_J66
  refine r_iast hg (by decide) rfl d_Model_unites_66 ?_
  refine r_letM (fun μ_66 => ?_)
  refine r_iload hg 4 d_Model_unites_67 rfl ?_
  refine r_istore (l' := [(5, .int v4), (0, .ref 125), (1, .int v1), (2, .int v2), (3, .int v3), (4, .int v4)]) hg d_Model_unites_69 (Nat.le_of_ble_eq_true rfl) rfl ?_
  refine r_sub [1, 2, 3, 4, 5, 0] rfl ?_
  exact t_Model_unites_L71 hg hA (f_Model_unites_J137 rec_) (t_Model_unites_J137 hg hA rec_ hrec_) h_fuel v1 v2 v3 v4 v4 μ_66
theorem t_Model_unites_L21_b {cx : HCx} (hg : HGood cx R_Model b_Model_unites 6 2 none) (hA : h_own cx)  (rec_ : Int32 → Int32 → Int32 → Int32 → HMem → Option (Unit × HMem)) (hrec_ : p_Model_unites_21 cx rec_) (v1 : Int32) (v2 : Int32) (v3 : Int32) (v4 : Int32) (μ : HMem) : HX cx (HQ cx h_eV) (f_Model_unites_L21_b  rec_ v1 v2 v3 v4 μ) 0 0 21 [(0, .ref 125), (1, .int v1), (2, .int v2), (3, .int v3), (4, .int v4)] [] μ := by
  unfold f_Model_unites_L21_b
  refine r_iload hg 4 d_Model_unites_21 rfl ?_
  refine r_aload_n hg 0 d_Model_unites_23 rfl rfl ?_
  refine r_iconst (v := 4) hg d_Model_unites_24 (by decide) ?_
  refine r_callV (As := [.int 4]) hg (t_Model_size 4 μ) v_Model_size c_Model rfl (by decide) rfl wm_Model_75 d_Model_unites_25 rfl ⟨by decide, by decide⟩ (Nat.le_of_ble_eq_true rfl) rfl (fun r25 μ_25 _ => ?_)
  refine r_icmp_ge (tgt := 143) hg d_Model_unites_28 (by decide) ?_ ?_
  · exact r_vret hg hA rfl d_Model_unites_143 rfl
  · refine r_aload_n hg 0 d_Model_unites_31 rfl rfl ?_
    refine r_get (v := .ref 126) hg c_Model (by decide) rfl (Nat.le_of_ble_eq_true rfl) rfl wf_Model_7 d_Model_unites_32 rfl ?_
    refine r_sipush (v := 293) hg d_Model_unites_35 (by decide) ?_
    refine r_iload hg 4 d_Model_unites_38 rfl ?_
    refine r_iadd hg d_Model_unites_40 ?_
    refine r_iload hg 4 d_Model_unites_41 rfl ?_
    refine r_iload_n hg 3 d_Model_unites_43 rfl rfl ?_
    refine r_icmp_ge (tgt := 57) hg d_Model_unites_44 (by decide) ?_ ?_
    · refine r_aload_n hg 0 d_Model_unites_57 rfl rfl ?_
      refine r_iload_n hg 2 d_Model_unites_58 rfl rfl ?_
      refine r_iload hg 4 d_Model_unites_59 rfl ?_
      refine r_iload_n hg 3 d_Model_unites_61 rfl rfl ?_
      refine r_isub hg d_Model_unites_62 ?_
      refine r_callV (As := [.int v2, .int (v4 - v3)]) hg (t_Model_weight v2 (v4 - v3) μ_25) v_Model_weight c_Model rfl (by decide) rfl wm_Model_107 d_Model_unites_63 rfl ⟨by decide, by decide⟩ (Nat.le_of_ble_eq_true rfl) rfl (fun r63 μ_63 _ => ?_)
      exact t_Model_unites_J66 hg hA rec_ hrec_ v1 v2 v3 v4 r63 (293 + v4) μ_63
    · refine r_aload_n hg 0 d_Model_unites_47 rfl rfl ?_
      refine r_iload_n hg 1 d_Model_unites_48 rfl rfl ?_
      refine r_iload hg 4 d_Model_unites_49 rfl ?_
      refine r_callV (As := [.int v1, .int v4]) hg (t_Model_weight v1 v4 μ_25) v_Model_weight c_Model rfl (by decide) rfl wm_Model_107 d_Model_unites_51 rfl ⟨by decide, by decide⟩ (Nat.le_of_ble_eq_true rfl) rfl (fun r51 μ_51 _ => ?_)
      refine r_goto (tgt := 66) hg d_Model_unites_54 (by decide) ?_
      exact t_Model_unites_J66 hg hA rec_ hrec_ v1 v2 v3 v4 r51 (293 + v4) μ_51
theorem t_Model_unites_L21 {cx : HCx} (hg : HGood cx R_Model b_Model_unites 6 2 none) (hA : h_own cx)  : ∀ (fuel : Nat) (v1 : Int32) (v2 : Int32) (v3 : Int32) (v4 : Int32) (μ : HMem), HX cx (HQ cx h_eV) (f_Model_unites_L21  fuel v1 v2 v3 v4 μ) 0 0 21 [(0, .ref 125), (1, .int v1), (2, .int v2), (3, .int v3), (4, .int v4)] [] μ
  | 0, _, _, _, _, _ => by unfold f_Model_unites_L21; exact HX.none
  | fuel + 1, v1, v2, v3, v4, μ => by
    rw [f_Model_unites_L21]
    exact t_Model_unites_L21_b hg hA   (f_Model_unites_L21  fuel) (t_Model_unites_L21 hg hA   fuel) v1 v2 v3 v4 μ
theorem t_Model_unites_0 {cx : HCx} (hg : HGood cx R_Model b_Model_unites 6 2 none) (hA : h_own cx) (v1 : Int32) (v2 : Int32) (μ : HMem) : HX cx (HQ cx h_eV) (f_Model_unites v1 v2 μ) 0 0 0 [(0, .ref 125), (1, .int v1), (2, .int v2)] [] μ := by
  unfold f_Model_unites
  refine r_aload_n hg 0 d_Model_unites_0 rfl rfl ?_
  refine r_iload_n hg 1 d_Model_unites_1 rfl rfl ?_
  refine r_callV (As := [.int v1]) hg (t_Model_size v1 μ) v_Model_size c_Model rfl (by decide) rfl wm_Model_75 d_Model_unites_2 rfl ⟨by decide, by decide⟩ (Nat.le_of_ble_eq_true rfl) rfl (fun r2 μ_2 _ => ?_)
  refine r_istore_n (l' := [(3, .int r2), (0, .ref 125), (1, .int v1), (2, .int v2)]) hg d_Model_unites_5 rfl (Nat.le_of_ble_eq_true rfl) rfl ?_
  refine r_aload_n hg 1 d_Model_unites_6 rfl rfl ?_
  refine r_iconst (v := 4) hg d_Model_unites_7 (by decide) ?_
  refine r_iload_n hg 0 d_Model_unites_8 rfl rfl ?_
  refine r_aload_n hg 1 d_Model_unites_9 rfl rfl ?_
  refine r_iload_n hg 3 d_Model_unites_10 rfl rfl ?_
  refine r_callV (As := [.int v2]) hg (t_Model_size v2 μ_2) v_Model_size c_Model rfl (by decide) rfl wm_Model_75 d_Model_unites_11 rfl ⟨by decide, by decide⟩ (Nat.le_of_ble_eq_true rfl) rfl (fun r11 μ_11 _ => ?_)
  refine r_iadd hg d_Model_unites_14 ?_
  refine r_callV (As := [.int 4, .int (r2 + r11)]) hg (t_Model_begins 4 (r2 + r11) μ_11) v_Model_begins c_Model rfl (by decide) rfl wm_Model_96 d_Model_unites_15 rfl ⟨by decide, by decide⟩ (Nat.le_of_ble_eq_true rfl) rfl (fun r15 μ_15 _ => ?_)
  refine r_iconst (v := 0) hg d_Model_unites_18 (by decide) ?_
  refine r_istore (l' := [(4, .int 0), (3, .int r2), (0, .ref 125), (1, .int v1), (2, .int v2)]) hg d_Model_unites_19 (Nat.le_of_ble_eq_true rfl) rfl ?_
  refine r_sub [2, 3, 4, 1, 0] rfl ?_
  exact t_Model_unites_L21 hg hA h_fuel v1 v2 r2 0 μ_15
theorem t_Model_unites (v1 : Int32) (v2 : Int32) (μ : HMem) : HSpec y_Model_unites b_Model_unites 6 none 2 h_eV [.ref 125, .int v1, .int v2] μ (f_Model_unites v1 v2 μ) :=
  HSpec.of (by decide +kernel) (v_Model_unites.1 _ (by simp)) (Nat.le_of_ble_eq_true rfl) (fun cx hA hg => t_Model_unites_0 hg hA v1 v2 μ)
theorem t_Model_factor_J21 {cx : HCx} (hg : HGood cx R_Model b_Model_factor 5 2 (some .int)) (hA : h_own cx)   (s0 : Int32) (μ : HMem) : HX cx (HQ cx h_eI) (f_Model_factor_J21   s0 μ) 0 0 21 [] [.int s0] μ := by
  unfold f_Model_factor_J21
  exact r_iret hg hA rfl d_Model_factor_21 rfl
theorem t_Model_factor_J14 {cx : HCx} (hg : HGood cx R_Model b_Model_factor 5 2 (some .int)) (hA : h_own cx)   (v1 : Int32) (v2 : Int32) (v3 : Int32) (μ : HMem) : HX cx (HQ cx h_eI) (f_Model_factor_J14   v1 v2 v3 μ) 0 0 14 [(0, .ref 125), (1, .int v1), (2, .int v2), (3, .int v3)] [] μ := by
  unfold f_Model_factor_J14
  refine r_aload_n hg 0 d_Model_factor_14 rfl rfl ?_
  refine r_iload_n hg 1 d_Model_factor_15 rfl rfl ?_
  refine r_iload_n hg 2 d_Model_factor_16 rfl rfl ?_
  refine r_iload_n hg 3 d_Model_factor_17 rfl rfl ?_
  refine r_callV (As := [.int v1, .int v2, .int v3]) hg (t_Model_between v1 v2 v3 μ) v_Model_between c_Model rfl (by decide) rfl wm_Model_79 d_Model_factor_18 rfl ⟨by decide, by decide⟩ (Nat.le_of_ble_eq_true rfl) rfl (fun r18 μ_18 _ => ?_)
  refine r_sub [] rfl ?_
  exact t_Model_factor_J21 hg hA r18 μ_18
theorem t_Model_factor_0 {cx : HCx} (hg : HGood cx R_Model b_Model_factor 5 2 (some .int)) (hA : h_own cx) (v1 : Int32) (v2 : Int32) (v3 : Int32) (v4 : Int32) (μ : HMem) : HX cx (HQ cx h_eI) (f_Model_factor v1 v2 v3 v4 μ) 0 0 0 [(0, .ref 125), (1, .int v1), (2, .int v2), (3, .int v3), (4, .int v4)] [] μ := by
  unfold f_Model_factor
  refine r_iload hg 4 d_Model_factor_0 rfl ?_
  refine r_if_eq (tgt := 14) hg d_Model_factor_2 (by decide) ?_ ?_
  · refine r_sub [0, 1, 2, 3] rfl ?_
    exact t_Model_factor_J14 hg hA v1 v2 v3 μ
  · refine r_iload_n hg 2 d_Model_factor_5 rfl rfl ?_
    refine r_iload_n hg 3 d_Model_factor_6 rfl rfl ?_
    refine r_icmp_ne (tgt := 14) hg d_Model_factor_7 (by decide) ?_ ?_
    · refine r_sub [0, 1, 2, 3] rfl ?_
      exact t_Model_factor_J14 hg hA v1 v2 v3 μ
    · refine r_iconst (v := 1) hg d_Model_factor_10 (by decide) ?_
      refine r_goto (tgt := 21) hg d_Model_factor_11 (by decide) ?_
      refine r_sub [] rfl ?_
      exact t_Model_factor_J21 hg hA 1 μ
theorem t_Model_factor (v1 : Int32) (v2 : Int32) (v3 : Int32) (v4 : Int32) (μ : HMem) : HSpec y_Model_factor b_Model_factor 5 (some .int) 2 h_eI [.ref 125, .int v1, .int v2, .int v3, .int v4] μ (f_Model_factor v1 v2 v3 v4 μ) :=
  HSpec.of (by decide +kernel) (v_Model_factor.1 _ (by simp)) (Nat.le_of_ble_eq_true rfl) (fun cx hA hg => t_Model_factor_0 hg hA v1 v2 v3 v4 μ)
theorem t_Model_multiplies_L73_b {cx : HCx} (hg : HGood cx R_Model b_Model_multiplies 7 3 none) (hA : h_own cx) (K135 : Int32 → Int32 → Int32 → Int32 → Int32 → HMem → Option (Unit × HMem)) (hK135 : p_Model_multiplies_135 cx K135) (rec_ : Int32 → Int32 → Int32 → Int32 → Int32 → Int32 → HMem → Option (Unit × HMem)) (hrec_ : p_Model_multiplies_73 cx rec_) (v1 : Int32) (v2 : Int32) (v3 : Int32) (v4 : Int32) (v5 : Int32) (v6 : Int32) (μ : HMem) : HX cx (HQ cx h_eV) (f_Model_multiplies_L73_b K135 rec_ v1 v2 v3 v4 v5 v6 μ) 0 0 73 [(0, .ref 125), (1, .int v1), (2, .int v2), (3, .int v3), (4, .int v4), (5, .int v5), (6, .int v6)] [] μ := by
  unfold f_Model_multiplies_L73_b
  refine r_iload hg 6 d_Model_multiplies_73 rfl ?_
  refine r_aload_n hg 0 d_Model_multiplies_75 rfl rfl ?_
  refine r_iconst (v := 4) hg d_Model_multiplies_76 (by decide) ?_
  refine r_callV (As := [.int 4]) hg (t_Model_size 4 μ) v_Model_size c_Model rfl (by decide) rfl wm_Model_75 d_Model_multiplies_77 rfl ⟨by decide, by decide⟩ (Nat.le_of_ble_eq_true rfl) rfl (fun r77 μ_77 _ => ?_)
  refine r_icmp_ge (tgt := 135) hg d_Model_multiplies_80 (by decide) ?_ ?_
  · refine r_sub [0, 1, 2, 3, 4, 5] rfl ?_
    exact hK135 v1 v2 v3 v4 v5 μ_77
  · refine r_aload_n hg 0 d_Model_multiplies_83 rfl rfl ?_
    refine r_iconst (v := 4) hg d_Model_multiplies_84 (by decide) ?_
    refine r_iload hg 5 d_Model_multiplies_85 rfl ?_
    refine r_iload hg 6 d_Model_multiplies_87 rfl ?_
    refine r_aload_n hg 0 d_Model_multiplies_89 rfl rfl ?_
    refine r_iload_n hg 1 d_Model_multiplies_90 rfl rfl ?_
    refine r_iload hg 5 d_Model_multiplies_91 rfl ?_
    refine r_iload hg 4 d_Model_multiplies_93 rfl ?_
    refine r_idiv hg d_Model_multiplies_95 ?_
    refine r_iload hg 6 d_Model_multiplies_96 rfl ?_
    refine r_iload hg 4 d_Model_multiplies_98 rfl ?_
    refine r_idiv hg d_Model_multiplies_100 ?_
    refine r_iload_n hg 3 d_Model_multiplies_101 rfl rfl ?_
    refine r_callV (As := [.int v1, .int (v5 / v4), .int (v6 / v4), .int v3]) hg (t_Model_factor v1 (v5 / v4) (v6 / v4) v3 μ_77) v_Model_factor c_Model rfl (by decide) rfl wm_Model_133 d_Model_multiplies_102 rfl ⟨by decide, by decide⟩ (Nat.le_of_ble_eq_true rfl) rfl (fun r102 μ_102 _ => ?_)
    refine r_aload_n hg 0 d_Model_multiplies_105 rfl rfl ?_
    refine r_iload_n hg 2 d_Model_multiplies_106 rfl rfl ?_
    refine r_iload hg 5 d_Model_multiplies_107 rfl ?_
    refine r_iload hg 4 d_Model_multiplies_109 rfl ?_
    refine r_irem hg d_Model_multiplies_111 ?_
    refine r_iload hg 6 d_Model_multiplies_112 rfl ?_
    refine r_iload hg 4 d_Model_multiplies_114 rfl ?_
    refine r_irem hg d_Model_multiplies_116 ?_
    refine r_iload_n hg 3 d_Model_multiplies_117 rfl rfl ?_
    refine r_callV (As := [.int v2, .int (h_irem v5 v4), .int (h_irem v6 v4), .int v3]) hg (t_Model_factor v2 (h_irem v5 v4) (h_irem v6 v4) v3 μ_102) v_Model_factor c_Model rfl (by decide) rfl wm_Model_133 d_Model_multiplies_118 rfl ⟨by decide, by decide⟩ (Nat.le_of_ble_eq_true rfl) rfl (fun r118 μ_118 _ => ?_)
    refine r_imul hg d_Model_multiplies_121 ?_
    refine r_iconst (v := 2) hg d_Model_multiplies_122 (by decide) ?_
    refine r_callS (As := [.int (r102 * r118), .int 2]) hg (t_Model_limited (r102 * r118) 2 μ_118) v_Model_limited wm_Model_130 d_Model_multiplies_123 rfl ⟨by decide, by decide⟩ (Nat.le_of_ble_eq_true rfl) rfl (fun r123 μ_123 _ => ?_)
    refine r_callV (As := [.int 4, .int v5, .int v6, .int r123]) hg (t_Model_puts 4 v5 v6 r123 μ_123) v_Model_puts c_Model rfl (by decide) rfl wm_Model_111 d_Model_multiplies_126 rfl ⟨by decide, by decide⟩ (Nat.le_of_ble_eq_true rfl) rfl (fun r126 μ_126 _ => ?_)
    refine r_letE (fun v6_129 he_129 => ?_)
    refine r_iinc (v := v6_129) (l' := [(6, .int v6_129), (0, .ref 125), (1, .int v1), (2, .int v2), (3, .int v3), (4, .int v4), (5, .int v5)]) hg 6 d_Model_multiplies_129 rfl he_129 (Nat.le_of_ble_eq_true rfl) rfl ?_
    refine r_goto (tgt := 73) hg d_Model_multiplies_132 (by decide) ?_
    refine r_sub [1, 2, 3, 4, 5, 6, 0] rfl ?_
    exact hrec_ v1 v2 v3 v4 v5 v6_129 μ_126
theorem t_Model_multiplies_L73 {cx : HCx} (hg : HGood cx R_Model b_Model_multiplies 7 3 none) (hA : h_own cx) (K135 : Int32 → Int32 → Int32 → Int32 → Int32 → HMem → Option (Unit × HMem)) (hK135 : p_Model_multiplies_135 cx K135) : ∀ (fuel : Nat) (v1 : Int32) (v2 : Int32) (v3 : Int32) (v4 : Int32) (v5 : Int32) (v6 : Int32) (μ : HMem), HX cx (HQ cx h_eV) (f_Model_multiplies_L73 K135 fuel v1 v2 v3 v4 v5 v6 μ) 0 0 73 [(0, .ref 125), (1, .int v1), (2, .int v2), (3, .int v3), (4, .int v4), (5, .int v5), (6, .int v6)] [] μ
  | 0, _, _, _, _, _, _, _ => by unfold f_Model_multiplies_L73; exact HX.none
  | fuel + 1, v1, v2, v3, v4, v5, v6, μ => by
    rw [f_Model_multiplies_L73]
    exact t_Model_multiplies_L73_b hg hA  K135 hK135 (f_Model_multiplies_L73 K135 fuel) (t_Model_multiplies_L73 hg hA  K135 hK135 fuel) v1 v2 v3 v4 v5 v6 μ
theorem t_Model_multiplies_J135 {cx : HCx} (hg : HGood cx R_Model b_Model_multiplies 7 3 none) (hA : h_own cx)  (rec_ : Int32 → Int32 → Int32 → Int32 → Int32 → HMem → Option (Unit × HMem)) (hrec_ : p_Model_multiplies_23 cx rec_) (v1 : Int32) (v2 : Int32) (v3 : Int32) (v4 : Int32) (v5 : Int32) (μ : HMem) : HX cx (HQ cx h_eV) (f_Model_multiplies_J135  rec_ v1 v2 v3 v4 v5 μ) 0 0 135 [(0, .ref 125), (1, .int v1), (2, .int v2), (3, .int v3), (4, .int v4), (5, .int v5)] [] μ := by
  unfold f_Model_multiplies_J135
  refine r_letE (fun v5_135 he_135 => ?_)
  refine r_iinc (v := v5_135) (l' := [(5, .int v5_135), (0, .ref 125), (1, .int v1), (2, .int v2), (3, .int v3), (4, .int v4)]) hg 5 d_Model_multiplies_135 rfl he_135 (Nat.le_of_ble_eq_true rfl) rfl ?_
  refine r_goto (tgt := 23) hg d_Model_multiplies_138 (by decide) ?_
  refine r_sub [1, 2, 3, 4, 5, 0] rfl ?_
  exact hrec_ v1 v2 v3 v4 v5_135 μ
theorem t_Model_multiplies_L23_b {cx : HCx} (hg : HGood cx R_Model b_Model_multiplies 7 3 none) (hA : h_own cx)  (rec_ : Int32 → Int32 → Int32 → Int32 → Int32 → HMem → Option (Unit × HMem)) (hrec_ : p_Model_multiplies_23 cx rec_) (v1 : Int32) (v2 : Int32) (v3 : Int32) (v4 : Int32) (v5 : Int32) (μ : HMem) : HX cx (HQ cx h_eV) (f_Model_multiplies_L23_b  rec_ v1 v2 v3 v4 v5 μ) 0 0 23 [(0, .ref 125), (1, .int v1), (2, .int v2), (3, .int v3), (4, .int v4), (5, .int v5)] [] μ := by
  unfold f_Model_multiplies_L23_b
  refine r_iload hg 5 d_Model_multiplies_23 rfl ?_
  refine r_aload_n hg 0 d_Model_multiplies_25 rfl rfl ?_
  refine r_iconst (v := 4) hg d_Model_multiplies_26 (by decide) ?_
  refine r_callV (As := [.int 4]) hg (t_Model_size 4 μ) v_Model_size c_Model rfl (by decide) rfl wm_Model_75 d_Model_multiplies_27 rfl ⟨by decide, by decide⟩ (Nat.le_of_ble_eq_true rfl) rfl (fun r27 μ_27 _ => ?_)
  refine r_icmp_ge (tgt := 141) hg d_Model_multiplies_30 (by decide) ?_ ?_
  · exact r_vret hg hA rfl d_Model_multiplies_141 rfl
  · refine r_aload_n hg 0 d_Model_multiplies_33 rfl rfl ?_
    refine r_get (v := .ref 126) hg c_Model (by decide) rfl (Nat.le_of_ble_eq_true rfl) rfl wf_Model_7 d_Model_multiplies_34 rfl ?_
    refine r_sipush (v := 293) hg d_Model_multiplies_37 (by decide) ?_
    refine r_iload hg 5 d_Model_multiplies_40 rfl ?_
    refine r_iadd hg d_Model_multiplies_42 ?_
    refine r_aload_n hg 0 d_Model_multiplies_43 rfl rfl ?_
    refine r_iload_n hg 1 d_Model_multiplies_44 rfl rfl ?_
    refine r_iload hg 5 d_Model_multiplies_45 rfl ?_
    refine r_iload hg 4 d_Model_multiplies_47 rfl ?_
    refine r_idiv hg d_Model_multiplies_49 ?_
    refine r_callV (As := [.int v1, .int (v5 / v4)]) hg (t_Model_weight v1 (v5 / v4) μ_27) v_Model_weight c_Model rfl (by decide) rfl wm_Model_107 d_Model_multiplies_50 rfl ⟨by decide, by decide⟩ (Nat.le_of_ble_eq_true rfl) rfl (fun r50 μ_50 _ => ?_)
    refine r_aload_n hg 0 d_Model_multiplies_53 rfl rfl ?_
    refine r_iload_n hg 2 d_Model_multiplies_54 rfl rfl ?_
    refine r_iload hg 5 d_Model_multiplies_55 rfl ?_
    refine r_iload hg 4 d_Model_multiplies_57 rfl ?_
    refine r_irem hg d_Model_multiplies_59 ?_
    refine r_callV (As := [.int v2, .int (h_irem v5 v4)]) hg (t_Model_weight v2 (h_irem v5 v4) μ_50) v_Model_weight c_Model rfl (by decide) rfl wm_Model_107 d_Model_multiplies_60 rfl ⟨by decide, by decide⟩ (Nat.le_of_ble_eq_true rfl) rfl (fun r60 μ_60 _ => ?_)
    refine r_imul hg d_Model_multiplies_63 ?_
    refine r_iconst (v := 3) hg d_Model_multiplies_64 (by decide) ?_
    refine r_callS (As := [.int (r50 * r60), .int 3]) hg (t_Model_limited (r50 * r60) 3 μ_60) v_Model_limited wm_Model_130 d_Model_multiplies_65 rfl ⟨by decide, by decide⟩ (Nat.le_of_ble_eq_true rfl) rfl (fun r65 μ_65 _ => ?_)
    refine r_iast hg (by decide) rfl d_Model_multiplies_68 ?_
    refine r_letM (fun μ_68 => ?_)
    refine r_iload hg 5 d_Model_multiplies_69 rfl ?_
    refine r_istore (l' := [(6, .int v5), (0, .ref 125), (1, .int v1), (2, .int v2), (3, .int v3), (4, .int v4), (5, .int v5)]) hg d_Model_multiplies_71 (Nat.le_of_ble_eq_true rfl) rfl ?_
    refine r_sub [1, 2, 3, 4, 5, 6, 0] rfl ?_
    exact t_Model_multiplies_L73 hg hA (f_Model_multiplies_J135 rec_) (t_Model_multiplies_J135 hg hA rec_ hrec_) h_fuel v1 v2 v3 v4 v5 v5 μ_68
theorem t_Model_multiplies_L23 {cx : HCx} (hg : HGood cx R_Model b_Model_multiplies 7 3 none) (hA : h_own cx)  : ∀ (fuel : Nat) (v1 : Int32) (v2 : Int32) (v3 : Int32) (v4 : Int32) (v5 : Int32) (μ : HMem), HX cx (HQ cx h_eV) (f_Model_multiplies_L23  fuel v1 v2 v3 v4 v5 μ) 0 0 23 [(0, .ref 125), (1, .int v1), (2, .int v2), (3, .int v3), (4, .int v4), (5, .int v5)] [] μ
  | 0, _, _, _, _, _, _ => by unfold f_Model_multiplies_L23; exact HX.none
  | fuel + 1, v1, v2, v3, v4, v5, μ => by
    rw [f_Model_multiplies_L23]
    exact t_Model_multiplies_L23_b hg hA   (f_Model_multiplies_L23  fuel) (t_Model_multiplies_L23 hg hA   fuel) v1 v2 v3 v4 v5 μ
theorem t_Model_multiplies_0 {cx : HCx} (hg : HGood cx R_Model b_Model_multiplies 7 3 none) (hA : h_own cx) (v1 : Int32) (v2 : Int32) (v3 : Int32) (μ : HMem) : HX cx (HQ cx h_eV) (f_Model_multiplies v1 v2 v3 μ) 0 0 0 [(0, .ref 125), (1, .int v1), (2, .int v2), (3, .int v3)] [] μ := by
  unfold f_Model_multiplies
  refine r_aload_n hg 0 d_Model_multiplies_0 rfl rfl ?_
  refine r_iload_n hg 2 d_Model_multiplies_1 rfl rfl ?_
  refine r_callV (As := [.int v2]) hg (t_Model_size v2 μ) v_Model_size c_Model rfl (by decide) rfl wm_Model_75 d_Model_multiplies_2 rfl ⟨by decide, by decide⟩ (Nat.le_of_ble_eq_true rfl) rfl (fun r2 μ_2 _ => ?_)
  refine r_istore (l' := [(4, .int r2), (0, .ref 125), (1, .int v1), (2, .int v2), (3, .int v3)]) hg d_Model_multiplies_5 (Nat.le_of_ble_eq_true rfl) rfl ?_
  refine r_aload_n hg 1 d_Model_multiplies_7 rfl rfl ?_
  refine r_iconst (v := 4) hg d_Model_multiplies_8 (by decide) ?_
  refine r_aload_n hg 1 d_Model_multiplies_9 rfl rfl ?_
  refine r_iload_n hg 2 d_Model_multiplies_10 rfl rfl ?_
  refine r_callV (As := [.int v1]) hg (t_Model_size v1 μ_2) v_Model_size c_Model rfl (by decide) rfl wm_Model_75 d_Model_multiplies_11 rfl ⟨by decide, by decide⟩ (Nat.le_of_ble_eq_true rfl) rfl (fun r11 μ_11 _ => ?_)
  refine r_iload hg 0 d_Model_multiplies_14 rfl ?_
  refine r_imul hg d_Model_multiplies_16 ?_
  refine r_callV (As := [.int 4, .int (r11 * r2)]) hg (t_Model_begins 4 (r11 * r2) μ_11) v_Model_begins c_Model rfl (by decide) rfl wm_Model_96 d_Model_multiplies_17 rfl ⟨by decide, by decide⟩ (Nat.le_of_ble_eq_true rfl) rfl (fun r17 μ_17 _ => ?_)
  refine r_iconst (v := 0) hg d_Model_multiplies_20 (by decide) ?_
  refine r_istore (l' := [(5, .int 0), (4, .int r2), (0, .ref 125), (1, .int v1), (2, .int v2), (3, .int v3)]) hg d_Model_multiplies_21 (Nat.le_of_ble_eq_true rfl) rfl ?_
  refine r_sub [2, 3, 4, 5, 1, 0] rfl ?_
  exact t_Model_multiplies_L23 hg hA h_fuel v1 v2 v3 r2 0 μ_17
theorem t_Model_multiplies (v1 : Int32) (v2 : Int32) (v3 : Int32) (μ : HMem) : HSpec y_Model_multiplies b_Model_multiplies 7 none 3 h_eV [.ref 125, .int v1, .int v2, .int v3] μ (f_Model_multiplies v1 v2 v3 μ) :=
  HSpec.of (by decide +kernel) (v_Model_multiplies.1 _ (by simp)) (Nat.le_of_ble_eq_true rfl) (fun cx hA hg => t_Model_multiplies_0 hg hA v1 v2 v3 μ)
theorem t_Model_combine_J21 {cx : HCx} (hg : HGood cx R_Model b_Model_combine 5 4 (some .int)) (hA : h_own cx)    (μ : HMem) : HX cx (HQ cx h_eI) (f_Model_combine_J21   μ) 0 0 21 [(0, .ref 125)] [] μ := by
  unfold f_Model_combine_J21
  refine r_aload_n hg 0 d_Model_combine_21 rfl rfl ?_
  refine r_iconst (v := 1) hg d_Model_combine_22 (by decide) ?_
  refine r_callV (As := [.int 1]) hg (t_Model_fails 1 μ) v_Model_fails c_Model rfl (by decide) rfl wm_Model_93 d_Model_combine_23 rfl ⟨by decide, by decide⟩ (Nat.le_of_ble_eq_true rfl) rfl (fun r23 μ_23 _ => ?_)
  exact r_iret hg hA rfl d_Model_combine_26 rfl
theorem t_Model_combine_J115 {cx : HCx} (hg : HGood cx R_Model b_Model_combine 5 4 (some .int)) (hA : h_own cx)   (v1 : Int32) (μ : HMem) : HX cx (HQ cx h_eI) (f_Model_combine_J115   v1 μ) 0 0 115 [(0, .ref 125), (1, .int v1)] [] μ := by
  unfold f_Model_combine_J115
  refine r_aload_n hg 0 d_Model_combine_115 rfl rfl ?_
  refine r_iload_n hg 1 d_Model_combine_116 rfl rfl ?_
  refine r_callV (As := [.int v1]) hg (t_Model_keeps v1 μ) v_Model_keeps c_Model rfl (by decide) rfl wm_Model_99 d_Model_combine_117 rfl ⟨by decide, by decide⟩ (Nat.le_of_ble_eq_true rfl) rfl (fun r117 μ_117 _ => ?_)
  refine r_aload_n hg 0 d_Model_combine_120 rfl rfl ?_
  refine r_iload_n hg 1 d_Model_combine_121 rfl rfl ?_
  refine r_callV (As := [.int v1]) hg (t_Model_size v1 μ_117) v_Model_size c_Model rfl (by decide) rfl wm_Model_75 d_Model_combine_122 rfl ⟨by decide, by decide⟩ (Nat.le_of_ble_eq_true rfl) rfl (fun r122 μ_122 _ => ?_)
  exact r_iret hg hA rfl d_Model_combine_125 rfl
theorem t_Model_combine_J112 {cx : HCx} (hg : HGood cx R_Model b_Model_combine 5 4 (some .int)) (hA : h_own cx)   (v1 : Int32) (s0 : Int32) (s1 : Int32) (s2 : Int32) (μ : HMem) : HX cx (HQ cx h_eI) (f_Model_combine_J112   v1 s0 s1 s2 μ) 0 0 112 [(0, .ref 125), (1, .int v1)] [.int s0, .int s1, .int s2, .ref 125] μ := by
  unfold f_Model_combine_J112
  refine r_callV (As := [.int s2, .int s1, .int s0]) hg (t_Model_multiplies s2 s1 s0 μ) v_Model_multiplies c_Model rfl (by decide) rfl wm_Model_140 d_Model_combine_112 rfl ⟨by decide, by decide⟩ (Nat.le_of_ble_eq_true rfl) rfl (fun r112 μ_112 _ => ?_)
  exact t_Model_combine_J115 hg hA v1 μ_112
theorem t_Model_combine_J73 {cx : HCx} (hg : HGood cx R_Model b_Model_combine 5 4 (some .int)) (hA : h_own cx)   (v1 : Int32) (v2 : Int32) (v3 : Int32) (v4 : Int32) (s0 : Int32) (μ : HMem) : HX cx (HQ cx h_eI) (f_Model_combine_J73   v1 v2 v3 v4 s0 μ) 0 0 73 [(0, .ref 125), (1, .int v1), (2, .int v2), (3, .int v3), (4, .int v4)] [.int s0] μ := by
  unfold f_Model_combine_J73
  refine r_bipush (v := 8) hg d_Model_combine_73 (by decide) ?_
  refine r_icmp_le (tgt := 84) hg d_Model_combine_75 (by decide) ?_ ?_
  · refine r_iload hg 4 d_Model_combine_84 rfl ?_
    refine r_if_ne (tgt := 98) hg d_Model_combine_86 (by decide) ?_ ?_
    · refine r_aload_n hg 0 d_Model_combine_98 rfl rfl ?_
      refine r_iload_n hg 2 d_Model_combine_99 rfl rfl ?_
      refine r_iload_n hg 3 d_Model_combine_100 rfl rfl ?_
      refine r_iload hg 4 d_Model_combine_101 rfl ?_
      refine r_iconst (v := 2) hg d_Model_combine_103 (by decide) ?_
      refine r_icmp_ne (tgt := 111) hg d_Model_combine_104 (by decide) ?_ ?_
      · refine r_iconst (v := 0) hg d_Model_combine_111 (by decide) ?_
        refine r_sub [0, 1] rfl ?_
        exact t_Model_combine_J112 hg hA v1 0 v3 v2 μ
      · refine r_iconst (v := 1) hg d_Model_combine_107 (by decide) ?_
        refine r_goto (tgt := 112) hg d_Model_combine_108 (by decide) ?_
        refine r_sub [0, 1] rfl ?_
        exact t_Model_combine_J112 hg hA v1 1 v3 v2 μ
    · refine r_aload_n hg 0 d_Model_combine_89 rfl rfl ?_
      refine r_iload_n hg 2 d_Model_combine_90 rfl rfl ?_
      refine r_iload_n hg 3 d_Model_combine_91 rfl rfl ?_
      refine r_callV (As := [.int v2, .int v3]) hg (t_Model_unites v2 v3 μ) v_Model_unites c_Model rfl (by decide) rfl wm_Model_137 d_Model_combine_92 rfl ⟨by decide, by decide⟩ (Nat.le_of_ble_eq_true rfl) rfl (fun r92 μ_92 _ => ?_)
      refine r_goto (tgt := 115) hg d_Model_combine_95 (by decide) ?_
      refine r_sub [0, 1] rfl ?_
      exact t_Model_combine_J115 hg hA v1 μ_92
  · refine r_aload_n hg 0 d_Model_combine_78 rfl rfl ?_
    refine r_iconst (v := 3) hg d_Model_combine_79 (by decide) ?_
    refine r_callV (As := [.int 3]) hg (t_Model_fails 3 μ) v_Model_fails c_Model rfl (by decide) rfl wm_Model_93 d_Model_combine_80 rfl ⟨by decide, by decide⟩ (Nat.le_of_ble_eq_true rfl) rfl (fun r80 μ_80 _ => ?_)
    exact r_iret hg hA rfl d_Model_combine_83 rfl
theorem t_Model_combine_0 {cx : HCx} (hg : HGood cx R_Model b_Model_combine 5 4 (some .int)) (hA : h_own cx) (v1 : Int32) (v2 : Int32) (v3 : Int32) (v4 : Int32) (μ : HMem) : HX cx (HQ cx h_eI) (f_Model_combine v1 v2 v3 v4 μ) 0 0 0 [(0, .ref 125), (1, .int v1), (2, .int v2), (3, .int v3), (4, .int v4)] [] μ := by
  unfold f_Model_combine
  refine r_iload_n hg 1 d_Model_combine_0 rfl rfl ?_
  refine r_callS (As := [.int v1]) hg (t_Model_isGraph v1 μ) v_Model_isGraph wm_Model_71 d_Model_combine_1 rfl ⟨by decide, by decide⟩ (Nat.le_of_ble_eq_true rfl) rfl (fun r1 μ_1 _ => ?_)
  refine r_if_eq (tgt := 21) hg d_Model_combine_4 (by decide) ?_ ?_
  · refine r_sub [0] rfl ?_
    exact t_Model_combine_J21 hg hA μ_1
  · refine r_iload_n hg 2 d_Model_combine_7 rfl rfl ?_
    refine r_callS (As := [.int v2]) hg (t_Model_isGraph v2 μ_1) v_Model_isGraph wm_Model_71 d_Model_combine_8 rfl ⟨by decide, by decide⟩ (Nat.le_of_ble_eq_true rfl) rfl (fun r8 μ_8 _ => ?_)
    refine r_if_eq (tgt := 21) hg d_Model_combine_11 (by decide) ?_ ?_
    · refine r_sub [0] rfl ?_
      exact t_Model_combine_J21 hg hA μ_8
    · refine r_iload_n hg 3 d_Model_combine_14 rfl rfl ?_
      refine r_callS (As := [.int v3]) hg (t_Model_isGraph v3 μ_8) v_Model_isGraph wm_Model_71 d_Model_combine_15 rfl ⟨by decide, by decide⟩ (Nat.le_of_ble_eq_true rfl) rfl (fun r15 μ_15 _ => ?_)
      refine r_if_ne (tgt := 27) hg d_Model_combine_18 (by decide) ?_ ?_
      · refine r_iload hg 4 d_Model_combine_27 rfl ?_
        refine r_iconst (v := 0) hg d_Model_combine_29 (by decide) ?_
        refine r_iconst (v := 2) hg d_Model_combine_30 (by decide) ?_
        refine r_callS (As := [.int v4, .int 0, .int 2]) hg (t_Model_in v4 0 2 μ_15) v_Model_in wm_Model_67 d_Model_combine_31 rfl ⟨by decide, by decide⟩ (Nat.le_of_ble_eq_true rfl) rfl (fun r31 μ_31 _ => ?_)
        refine r_if_ne (tgt := 43) hg d_Model_combine_34 (by decide) ?_ ?_
        · refine r_iload hg 4 d_Model_combine_43 rfl ?_
          refine r_if_ne (tgt := 62) hg d_Model_combine_45 (by decide) ?_ ?_
          · refine r_aload_n hg 0 d_Model_combine_62 rfl rfl ?_
            refine r_iload_n hg 2 d_Model_combine_63 rfl rfl ?_
            refine r_callV (As := [.int v2]) hg (t_Model_size v2 μ_31) v_Model_size c_Model rfl (by decide) rfl wm_Model_75 d_Model_combine_64 rfl ⟨by decide, by decide⟩ (Nat.le_of_ble_eq_true rfl) rfl (fun r64 μ_64 _ => ?_)
            refine r_aload_n hg 0 d_Model_combine_67 rfl rfl ?_
            refine r_iload_n hg 3 d_Model_combine_68 rfl rfl ?_
            refine r_callV (As := [.int v3]) hg (t_Model_size v3 μ_64) v_Model_size c_Model rfl (by decide) rfl wm_Model_75 d_Model_combine_69 rfl ⟨by decide, by decide⟩ (Nat.le_of_ble_eq_true rfl) rfl (fun r69 μ_69 _ => ?_)
            refine r_imul hg d_Model_combine_72 ?_
            exact t_Model_combine_J73 hg hA v1 v2 v3 v4 (r64 * r69) μ_69
          · refine r_aload_n hg 0 d_Model_combine_48 rfl rfl ?_
            refine r_iload_n hg 2 d_Model_combine_49 rfl rfl ?_
            refine r_callV (As := [.int v2]) hg (t_Model_size v2 μ_31) v_Model_size c_Model rfl (by decide) rfl wm_Model_75 d_Model_combine_50 rfl ⟨by decide, by decide⟩ (Nat.le_of_ble_eq_true rfl) rfl (fun r50 μ_50 _ => ?_)
            refine r_aload_n hg 0 d_Model_combine_53 rfl rfl ?_
            refine r_iload_n hg 3 d_Model_combine_54 rfl rfl ?_
            refine r_callV (As := [.int v3]) hg (t_Model_size v3 μ_50) v_Model_size c_Model rfl (by decide) rfl wm_Model_75 d_Model_combine_55 rfl ⟨by decide, by decide⟩ (Nat.le_of_ble_eq_true rfl) rfl (fun r55 μ_55 _ => ?_)
            refine r_iadd hg d_Model_combine_58 ?_
            refine r_goto (tgt := 73) hg d_Model_combine_59 (by decide) ?_
            exact t_Model_combine_J73 hg hA v1 v2 v3 v4 (r50 + r55) μ_55
        · refine r_aload_n hg 0 d_Model_combine_37 rfl rfl ?_
          refine r_iconst (v := 2) hg d_Model_combine_38 (by decide) ?_
          refine r_callV (As := [.int 2]) hg (t_Model_fails 2 μ_31) v_Model_fails c_Model rfl (by decide) rfl wm_Model_93 d_Model_combine_39 rfl ⟨by decide, by decide⟩ (Nat.le_of_ble_eq_true rfl) rfl (fun r39 μ_39 _ => ?_)
          exact r_iret hg hA rfl d_Model_combine_42 rfl
      · refine r_sub [0] rfl ?_
        exact t_Model_combine_J21 hg hA μ_15
theorem t_Model_combine (v1 : Int32) (v2 : Int32) (v3 : Int32) (v4 : Int32) (μ : HMem) : HSpec y_Model_combine b_Model_combine 5 (some .int) 4 h_eI [.ref 125, .int v1, .int v2, .int v3, .int v4] μ (f_Model_combine v1 v2 v3 v4 μ) :=
  HSpec.of (by decide +kernel) (v_Model_combine.1 _ (by simp)) (Nat.le_of_ble_eq_true rfl) (fun cx hA hg => t_Model_combine_0 hg hA v1 v2 v3 v4 μ)
theorem t_Model_induces_L12_b {cx : HCx} (hg : HGood cx R_Model b_Model_induces 9 2 none) (hA : h_own cx) (K39 : Int32 → Int32 → Int32 → HMem → Option (Unit × HMem)) (hK39 : p_Model_induces_39 cx K39) (rec_ : Int32 → Int32 → Int32 → Int32 → HMem → Option (Unit × HMem)) (hrec_ : p_Model_induces_12 cx rec_) (v2 : Int32) (v3 : Int32) (v4 : Int32) (v5 : Int32) (μ : HMem) : HX cx (HQ cx h_eV) (f_Model_induces_L12_b K39 rec_ v2 v3 v4 v5 μ) 0 0 12 [(0, .ref 125), (2, .int v2), (3, .int v3), (4, .int v4), (5, .int v5)] [] μ := by
  unfold f_Model_induces_L12_b
  refine r_iload hg 4 d_Model_induces_12 rfl ?_
  refine r_aload_n hg 0 d_Model_induces_14 rfl rfl ?_
  refine r_iconst (v := 5) hg d_Model_induces_15 (by decide) ?_
  refine r_callV (As := [.int 5]) hg (t_Model_size 5 μ) v_Model_size c_Model rfl (by decide) rfl wm_Model_75 d_Model_induces_16 rfl ⟨by decide, by decide⟩ (Nat.le_of_ble_eq_true rfl) rfl (fun r16 μ_16 _ => ?_)
  refine r_icmp_ge (tgt := 39) hg d_Model_induces_19 (by decide) ?_ ?_
  · refine r_sub [0, 1, 2, 3] rfl ?_
    exact hK39 v2 v3 v4 μ_16
  · refine r_iload hg 3 d_Model_induces_22 rfl ?_
    refine r_iload_n hg 2 d_Model_induces_24 rfl rfl ?_
    refine r_iload hg 4 d_Model_induces_25 rfl ?_
    refine r_ishr hg d_Model_induces_27 ?_
    refine r_iconst (v := 1) hg d_Model_induces_28 (by decide) ?_
    refine r_iand hg d_Model_induces_29 ?_
    refine r_iadd hg d_Model_induces_30 ?_
    refine r_letI (fun v4_31 => ?_)
    refine r_istore (l' := [(4, .int v4_31), (0, .ref 125), (2, .int v2), (3, .int v3), (5, .int v5)]) hg d_Model_induces_31 (Nat.le_of_ble_eq_true rfl) rfl ?_
    refine r_letE (fun v5_33 he_33 => ?_)
    refine r_iinc (v := v5_33) (l' := [(5, .int v5_33), (4, .int v4_31), (0, .ref 125), (2, .int v2), (3, .int v3)]) hg 4 d_Model_induces_33 rfl he_33 (Nat.le_of_ble_eq_true rfl) rfl ?_
    refine r_goto (tgt := 12) hg d_Model_induces_36 (by decide) ?_
    refine r_sub [2, 3, 4, 1, 0] rfl ?_
    exact hrec_ v2 v3 v4_31 v5_33 μ_16
theorem t_Model_induces_L12 {cx : HCx} (hg : HGood cx R_Model b_Model_induces 9 2 none) (hA : h_own cx) (K39 : Int32 → Int32 → Int32 → HMem → Option (Unit × HMem)) (hK39 : p_Model_induces_39 cx K39) : ∀ (fuel : Nat) (v2 : Int32) (v3 : Int32) (v4 : Int32) (v5 : Int32) (μ : HMem), HX cx (HQ cx h_eV) (f_Model_induces_L12 K39 fuel v2 v3 v4 v5 μ) 0 0 12 [(0, .ref 125), (2, .int v2), (3, .int v3), (4, .int v4), (5, .int v5)] [] μ
  | 0, _, _, _, _, _ => by unfold f_Model_induces_L12; exact HX.none
  | fuel + 1, v2, v3, v4, v5, μ => by
    rw [f_Model_induces_L12]
    exact t_Model_induces_L12_b hg hA  K39 hK39 (f_Model_induces_L12 K39 fuel) (t_Model_induces_L12 hg hA  K39 hK39 fuel) v2 v3 v4 v5 μ
theorem t_Model_induces_J146 {cx : HCx} (hg : HGood cx R_Model b_Model_induces 9 2 none) (hA : h_own cx)  (rec_ : Int32 → Int32 → Int32 → Int32 → HMem → Option (Unit × HMem)) (hrec_ : p_Model_induces_52 cx rec_) (v2 : Int32) (v3 : Int32) (v5 : Int32) (v6 : Int32) (μ : HMem) : HX cx (HQ cx h_eV) (f_Model_induces_J146  rec_ v2 v3 v5 v6 μ) 0 0 146 [(0, .ref 125), (2, .int v2), (3, .int v3), (5, .int v5), (6, .int v6)] [] μ := by
  unfold f_Model_induces_J146
  refine r_letE (fun v6_146 he_146 => ?_)
  refine r_iinc (v := v6_146) (l' := [(6, .int v6_146), (0, .ref 125), (2, .int v2), (3, .int v3), (5, .int v5)]) hg 4 d_Model_induces_146 rfl he_146 (Nat.le_of_ble_eq_true rfl) rfl ?_
  refine r_goto (tgt := 52) hg d_Model_induces_149 (by decide) ?_
  refine r_sub [1, 2, 3, 4, 0] rfl ?_
  exact hrec_ v2 v3 v5 v6_146 μ
theorem t_Model_induces_J137 {cx : HCx} (hg : HGood cx R_Model b_Model_induces 9 2 none) (hA : h_own cx)  (rec_ : Int32 → Int32 → Int32 → Int32 → Int32 → Int32 → HMem → Option (Unit × HMem)) (hrec_ : p_Model_induces_99 cx rec_) (v2 : Int32) (v3 : Int32) (v5 : Int32) (v6 : Int32) (v7 : Int32) (v8 : Int32) (μ : HMem) : HX cx (HQ cx h_eV) (f_Model_induces_J137  rec_ v2 v3 v5 v6 v7 v8 μ) 0 0 137 [(0, .ref 125), (2, .int v2), (3, .int v3), (5, .int v5), (6, .int v6), (7, .int v7), (8, .int v8)] [] μ := by
  unfold f_Model_induces_J137
  refine r_letE (fun v8_137 he_137 => ?_)
  refine r_iinc (v := v8_137) (l' := [(8, .int v8_137), (0, .ref 125), (2, .int v2), (3, .int v3), (5, .int v5), (6, .int v6), (7, .int v7)]) hg 6 d_Model_induces_137 rfl he_137 (Nat.le_of_ble_eq_true rfl) rfl ?_
  refine r_goto (tgt := 99) hg d_Model_induces_140 (by decide) ?_
  refine r_sub [1, 2, 3, 4, 5, 6, 0] rfl ?_
  exact hrec_ v2 v3 v5 v6 v7 v8_137 μ
theorem t_Model_induces_L99_b {cx : HCx} (hg : HGood cx R_Model b_Model_induces 9 2 none) (hA : h_own cx) (K143 : Int32 → Int32 → Int32 → Int32 → HMem → Option (Unit × HMem)) (hK143 : p_Model_induces_143 cx K143) (rec_ : Int32 → Int32 → Int32 → Int32 → Int32 → Int32 → HMem → Option (Unit × HMem)) (hrec_ : p_Model_induces_99 cx rec_) (v2 : Int32) (v3 : Int32) (v5 : Int32) (v6 : Int32) (v7 : Int32) (v8 : Int32) (μ : HMem) : HX cx (HQ cx h_eV) (f_Model_induces_L99_b K143 rec_ v2 v3 v5 v6 v7 v8 μ) 0 0 99 [(0, .ref 125), (2, .int v2), (3, .int v3), (5, .int v5), (6, .int v6), (7, .int v7), (8, .int v8)] [] μ := by
  unfold f_Model_induces_L99_b
  refine r_iload hg 6 d_Model_induces_99 rfl ?_
  refine r_iload hg 4 d_Model_induces_101 rfl ?_
  refine r_icmp_gt (tgt := 143) hg d_Model_induces_103 (by decide) ?_ ?_
  · refine r_sub [0, 1, 2, 3, 4] rfl ?_
    exact hK143 v2 v3 v5 v6 μ
  · refine r_iload_n hg 2 d_Model_induces_106 rfl rfl ?_
    refine r_iload hg 6 d_Model_induces_107 rfl ?_
    refine r_ishr hg d_Model_induces_109 ?_
    refine r_iconst (v := 1) hg d_Model_induces_110 (by decide) ?_
    refine r_iand hg d_Model_induces_111 ?_
    refine r_iconst (v := 1) hg d_Model_induces_112 (by decide) ?_
    refine r_icmp_ne (tgt := 137) hg d_Model_induces_113 (by decide) ?_ ?_
    · exact t_Model_induces_J137 hg hA rec_ hrec_ v2 v3 v5 v6 v7 v8 μ
    · refine r_aload_n hg 0 d_Model_induces_116 rfl rfl ?_
      refine r_iload_n hg 1 d_Model_induces_117 rfl rfl ?_
      refine r_iload hg 3 d_Model_induces_118 rfl ?_
      refine r_iload hg 5 d_Model_induces_120 rfl ?_
      refine r_aload_n hg 0 d_Model_induces_122 rfl rfl ?_
      refine r_iconst (v := 5) hg d_Model_induces_123 (by decide) ?_
      refine r_iload hg 4 d_Model_induces_124 rfl ?_
      refine r_iload hg 6 d_Model_induces_126 rfl ?_
      refine r_callV (As := [.int 5, .int v6, .int v8]) hg (t_Model_between 5 v6 v8 μ) v_Model_between c_Model rfl (by decide) rfl wm_Model_79 d_Model_induces_128 rfl ⟨by decide, by decide⟩ (Nat.le_of_ble_eq_true rfl) rfl (fun r128 μ_128 _ => ?_)
      refine r_callV (As := [.int v2, .int v5, .int v7, .int r128]) hg (t_Model_puts v2 v5 v7 r128 μ_128) v_Model_puts c_Model rfl (by decide) rfl wm_Model_111 d_Model_induces_131 rfl ⟨by decide, by decide⟩ (Nat.le_of_ble_eq_true rfl) rfl (fun r131 μ_131 _ => ?_)
      refine r_letE (fun v7_134 he_134 => ?_)
      refine r_iinc (v := v7_134) (l' := [(7, .int v7_134), (0, .ref 125), (2, .int v2), (3, .int v3), (5, .int v5), (6, .int v6), (8, .int v8)]) hg 5 d_Model_induces_134 rfl he_134 (Nat.le_of_ble_eq_true rfl) rfl ?_
      refine r_sub [1, 2, 3, 4, 5, 0, 6] rfl ?_
      exact t_Model_induces_J137 hg hA rec_ hrec_ v2 v3 v5 v6 v7_134 v8 μ_131
theorem t_Model_induces_L99 {cx : HCx} (hg : HGood cx R_Model b_Model_induces 9 2 none) (hA : h_own cx) (K143 : Int32 → Int32 → Int32 → Int32 → HMem → Option (Unit × HMem)) (hK143 : p_Model_induces_143 cx K143) : ∀ (fuel : Nat) (v2 : Int32) (v3 : Int32) (v5 : Int32) (v6 : Int32) (v7 : Int32) (v8 : Int32) (μ : HMem), HX cx (HQ cx h_eV) (f_Model_induces_L99 K143 fuel v2 v3 v5 v6 v7 v8 μ) 0 0 99 [(0, .ref 125), (2, .int v2), (3, .int v3), (5, .int v5), (6, .int v6), (7, .int v7), (8, .int v8)] [] μ
  | 0, _, _, _, _, _, _, _ => by unfold f_Model_induces_L99; exact HX.none
  | fuel + 1, v2, v3, v5, v6, v7, v8, μ => by
    rw [f_Model_induces_L99]
    exact t_Model_induces_L99_b hg hA  K143 hK143 (f_Model_induces_L99 K143 fuel) (t_Model_induces_L99 hg hA  K143 hK143 fuel) v2 v3 v5 v6 v7 v8 μ
theorem t_Model_induces_J143 {cx : HCx} (hg : HGood cx R_Model b_Model_induces 9 2 none) (hA : h_own cx)  (rec_ : Int32 → Int32 → Int32 → Int32 → HMem → Option (Unit × HMem)) (hrec_ : p_Model_induces_52 cx rec_) (v2 : Int32) (v3 : Int32) (v5 : Int32) (v6 : Int32) (μ : HMem) : HX cx (HQ cx h_eV) (f_Model_induces_J143  rec_ v2 v3 v5 v6 μ) 0 0 143 [(0, .ref 125), (2, .int v2), (3, .int v3), (5, .int v5), (6, .int v6)] [] μ := by
  unfold f_Model_induces_J143
  refine r_letE (fun v5_143 he_143 => ?_)
  refine r_iinc (v := v5_143) (l' := [(5, .int v5_143), (0, .ref 125), (2, .int v2), (3, .int v3), (6, .int v6)]) hg 3 d_Model_induces_143 rfl he_143 (Nat.le_of_ble_eq_true rfl) rfl ?_
  refine r_sub [1, 2, 3, 0, 4] rfl ?_
  exact t_Model_induces_J146 hg hA rec_ hrec_ v2 v3 v5_143 v6 μ
theorem t_Model_induces_L52_b {cx : HCx} (hg : HGood cx R_Model b_Model_induces 9 2 none) (hA : h_own cx)  (rec_ : Int32 → Int32 → Int32 → Int32 → HMem → Option (Unit × HMem)) (hrec_ : p_Model_induces_52 cx rec_) (v2 : Int32) (v3 : Int32) (v5 : Int32) (v6 : Int32) (μ : HMem) : HX cx (HQ cx h_eV) (f_Model_induces_L52_b  rec_ v2 v3 v5 v6 μ) 0 0 52 [(0, .ref 125), (2, .int v2), (3, .int v3), (5, .int v5), (6, .int v6)] [] μ := by
  unfold f_Model_induces_L52_b
  refine r_iload hg 4 d_Model_induces_52 rfl ?_
  refine r_aload_n hg 0 d_Model_induces_54 rfl rfl ?_
  refine r_iconst (v := 5) hg d_Model_induces_55 (by decide) ?_
  refine r_callV (As := [.int 5]) hg (t_Model_size 5 μ) v_Model_size c_Model rfl (by decide) rfl wm_Model_75 d_Model_induces_56 rfl ⟨by decide, by decide⟩ (Nat.le_of_ble_eq_true rfl) rfl (fun r56 μ_56 _ => ?_)
  refine r_icmp_ge (tgt := 152) hg d_Model_induces_59 (by decide) ?_ ?_
  · exact r_vret hg hA rfl d_Model_induces_152 rfl
  · refine r_iload_n hg 2 d_Model_induces_62 rfl rfl ?_
    refine r_iload hg 4 d_Model_induces_63 rfl ?_
    refine r_ishr hg d_Model_induces_65 ?_
    refine r_iconst (v := 1) hg d_Model_induces_66 (by decide) ?_
    refine r_iand hg d_Model_induces_67 ?_
    refine r_iconst (v := 1) hg d_Model_induces_68 (by decide) ?_
    refine r_icmp_ne (tgt := 146) hg d_Model_induces_69 (by decide) ?_ ?_
    · exact t_Model_induces_J146 hg hA rec_ hrec_ v2 v3 v5 v6 μ_56
    · refine r_aload_n hg 0 d_Model_induces_72 rfl rfl ?_
      refine r_get (v := .ref 126) hg c_Model (by decide) rfl (Nat.le_of_ble_eq_true rfl) rfl wf_Model_7 d_Model_induces_73 rfl ?_
      refine r_bipush (v := 73) hg d_Model_induces_76 (by decide) ?_
      refine r_iload_n hg 1 d_Model_induces_78 rfl rfl ?_
      refine r_imul hg d_Model_induces_79 ?_
      refine r_iconst (v := 1) hg d_Model_induces_80 (by decide) ?_
      refine r_iadd hg d_Model_induces_81 ?_
      refine r_iload hg 3 d_Model_induces_82 rfl ?_
      refine r_iadd hg d_Model_induces_84 ?_
      refine r_aload_n hg 0 d_Model_induces_85 rfl rfl ?_
      refine r_iconst (v := 5) hg d_Model_induces_86 (by decide) ?_
      refine r_iload hg 4 d_Model_induces_87 rfl ?_
      refine r_callV (As := [.int 5, .int v6]) hg (t_Model_weight 5 v6 μ_56) v_Model_weight c_Model rfl (by decide) rfl wm_Model_107 d_Model_induces_89 rfl ⟨by decide, by decide⟩ (Nat.le_of_ble_eq_true rfl) rfl (fun r89 μ_89 _ => ?_)
      refine r_iast hg (by decide) rfl d_Model_induces_92 ?_
      refine r_letM (fun μ_92 => ?_)
      refine r_iconst (v := 0) hg d_Model_induces_93 (by decide) ?_
      refine r_istore (l' := [(7, .int 0), (0, .ref 125), (2, .int v2), (3, .int v3), (5, .int v5), (6, .int v6)]) hg d_Model_induces_94 (Nat.le_of_ble_eq_true rfl) rfl ?_
      refine r_iconst (v := 0) hg d_Model_induces_96 (by decide) ?_
      refine r_istore (l' := [(8, .int 0), (7, .int 0), (0, .ref 125), (2, .int v2), (3, .int v3), (5, .int v5), (6, .int v6)]) hg d_Model_induces_97 (Nat.le_of_ble_eq_true rfl) rfl ?_
      refine r_sub [2, 3, 4, 5, 6, 1, 0] rfl ?_
      exact t_Model_induces_L99 hg hA (f_Model_induces_J143 rec_) (t_Model_induces_J143 hg hA rec_ hrec_) h_fuel v2 v3 v5 v6 0 0 μ_92
theorem t_Model_induces_L52 {cx : HCx} (hg : HGood cx R_Model b_Model_induces 9 2 none) (hA : h_own cx)  : ∀ (fuel : Nat) (v2 : Int32) (v3 : Int32) (v5 : Int32) (v6 : Int32) (μ : HMem), HX cx (HQ cx h_eV) (f_Model_induces_L52  fuel v2 v3 v5 v6 μ) 0 0 52 [(0, .ref 125), (2, .int v2), (3, .int v3), (5, .int v5), (6, .int v6)] [] μ
  | 0, _, _, _, _, _ => by unfold f_Model_induces_L52; exact HX.none
  | fuel + 1, v2, v3, v5, v6, μ => by
    rw [f_Model_induces_L52]
    exact t_Model_induces_L52_b hg hA   (f_Model_induces_L52  fuel) (t_Model_induces_L52 hg hA   fuel) v2 v3 v5 v6 μ
theorem t_Model_induces_J39 {cx : HCx} (hg : HGood cx R_Model b_Model_induces 9 2 none) (hA : h_own cx)   (v2 : Int32) (v3 : Int32) (v4 : Int32) (μ : HMem) : HX cx (HQ cx h_eV) (f_Model_induces_J39   v2 v3 v4 μ) 0 0 39 [(0, .ref 125), (2, .int v2), (3, .int v3), (4, .int v4)] [] μ := by
  unfold f_Model_induces_J39
  refine r_aload_n hg 0 d_Model_induces_39 rfl rfl ?_
  refine r_iload_n hg 1 d_Model_induces_40 rfl rfl ?_
  refine r_iload hg 3 d_Model_induces_41 rfl ?_
  refine r_callV (As := [.int v2, .int v4]) hg (t_Model_begins v2 v4 μ) v_Model_begins c_Model rfl (by decide) rfl wm_Model_96 d_Model_induces_43 rfl ⟨by decide, by decide⟩ (Nat.le_of_ble_eq_true rfl) rfl (fun r43 μ_43 _ => ?_)
  refine r_iconst (v := 0) hg d_Model_induces_46 (by decide) ?_
  refine r_istore (l' := [(5, .int 0), (0, .ref 125), (2, .int v2), (3, .int v3), (4, .int v4)]) hg d_Model_induces_47 (Nat.le_of_ble_eq_true rfl) rfl ?_
  refine r_iconst (v := 0) hg d_Model_induces_49 (by decide) ?_
  refine r_istore (l' := [(6, .int 0), (5, .int 0), (0, .ref 125), (2, .int v2), (3, .int v3), (4, .int v4)]) hg d_Model_induces_50 (Nat.le_of_ble_eq_true rfl) rfl ?_
  refine r_sub [2, 3, 4, 1, 0] rfl ?_
  exact t_Model_induces_L52 hg hA h_fuel v2 v3 0 0 μ_43
theorem t_Model_induces_0 {cx : HCx} (hg : HGood cx R_Model b_Model_induces 9 2 none) (hA : h_own cx) (v1 : Int32) (v2 : Int32) (v3 : Int32) (μ : HMem) : HX cx (HQ cx h_eV) (f_Model_induces v1 v2 v3 μ) 0 0 0 [(0, .ref 125), (1, .int v1), (2, .int v2), (3, .int v3)] [] μ := by
  unfold f_Model_induces
  refine r_aload_n hg 0 d_Model_induces_0 rfl rfl ?_
  refine r_iload_n hg 1 d_Model_induces_1 rfl rfl ?_
  refine r_iconst (v := 5) hg d_Model_induces_2 (by decide) ?_
  refine r_callV (As := [.int v1, .int 5]) hg (t_Model_copies v1 5 μ) v_Model_copies c_Model rfl (by decide) rfl wm_Model_89 d_Model_induces_3 rfl ⟨by decide, by decide⟩ (Nat.le_of_ble_eq_true rfl) rfl (fun r3 μ_3 _ => ?_)
  refine r_iconst (v := 0) hg d_Model_induces_6 (by decide) ?_
  refine r_istore (l' := [(4, .int 0), (0, .ref 125), (1, .int v1), (2, .int v2), (3, .int v3)]) hg d_Model_induces_7 (Nat.le_of_ble_eq_true rfl) rfl ?_
  refine r_iconst (v := 0) hg d_Model_induces_9 (by decide) ?_
  refine r_istore (l' := [(5, .int 0), (4, .int 0), (0, .ref 125), (1, .int v1), (2, .int v2), (3, .int v3)]) hg d_Model_induces_10 (Nat.le_of_ble_eq_true rfl) rfl ?_
  refine r_sub [2, 4, 5, 1, 0] rfl ?_
  exact t_Model_induces_L12 hg hA f_Model_induces_J39 (t_Model_induces_J39 hg hA) h_fuel v2 v3 0 0 μ_3
theorem t_Model_induces (v1 : Int32) (v2 : Int32) (v3 : Int32) (μ : HMem) : HSpec y_Model_induces b_Model_induces 9 none 2 h_eV [.ref 125, .int v1, .int v2, .int v3] μ (f_Model_induces v1 v2 v3 μ) :=
  HSpec.of (by decide +kernel) (v_Model_induces.1 _ (by simp)) (Nat.le_of_ble_eq_true rfl) (fun cx hA hg => t_Model_induces_0 hg hA v1 v2 v3 μ)
