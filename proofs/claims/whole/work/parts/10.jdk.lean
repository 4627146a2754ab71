/-! pure programs and their proofs: jdk (written by gen.py) -/
def y_Integer_bitCount : MethodName := ⟨R_Integer, "bitCount", "(I)I"⟩
abbrev b_Integer_bitCount : ByteArray := prog_17_method_49_code
theorem v_Integer_bitCount : HStat y_Integer_bitCount b_Integer_bitCount 1 (some .int) 1 := ⟨List.forall_mem_cons.mpr ⟨h_inI 407 (by decide +kernel) rfl, List.forall_mem_cons.mpr ⟨h_inI 118 (by decide +kernel) rfl, List.forall_mem_cons.mpr ⟨h_inI 408 (by decide +kernel) rfl, fun _ h => absurd h List.not_mem_nil⟩⟩⟩, by decide, by decide, by decide +kernel⟩
def y_Arrays_fill1 : MethodName := ⟨R_Arrays, "fill", "([II)V"⟩
abbrev b_Arrays_fill1 : ByteArray := prog_24_method_103_code
theorem v_Arrays_fill1 : HStat y_Arrays_fill1 b_Arrays_fill1 4 none 2 := ⟨List.forall_mem_cons.mpr ⟨h_inI 605 (by decide +kernel) rfl, List.forall_mem_cons.mpr ⟨h_inI 117 (by decide +kernel) rfl, List.forall_mem_cons.mpr ⟨h_inI 606 (by decide +kernel) rfl, fun _ h => absurd h List.not_mem_nil⟩⟩⟩, by decide, by decide, by decide +kernel⟩
def y_Long_bitCount : MethodName := ⟨R_Long, "bitCount", "(J)I"⟩
abbrev b_Long_bitCount : ByteArray := prog_18_method_50_code
theorem v_Long_bitCount : HStat y_Long_bitCount b_Long_bitCount 2 (some .int) 1 := ⟨List.forall_mem_cons.mpr ⟨h_inI 890 (by decide +kernel) rfl, List.forall_mem_cons.mpr ⟨h_inI 121 (by decide +kernel) rfl, List.forall_mem_cons.mpr ⟨h_inI 891 (by decide +kernel) rfl, fun _ h => absurd h List.not_mem_nil⟩⟩⟩, by decide, by decide, by decide +kernel⟩
def y_Arrays_fill2 : MethodName := ⟨R_Arrays, "fill", "([JJ)V"⟩
abbrev b_Arrays_fill2 : ByteArray := prog_24_method_101_code
theorem v_Arrays_fill2 : HStat y_Arrays_fill2 b_Arrays_fill2 5 none 2 := ⟨List.forall_mem_cons.mpr ⟨h_inI 991 (by decide +kernel) rfl, List.forall_mem_cons.mpr ⟨h_inI 117 (by decide +kernel) rfl, List.forall_mem_cons.mpr ⟨h_inI 992 (by decide +kernel) rfl, fun _ h => absurd h List.not_mem_nil⟩⟩⟩, by decide, by decide, by decide +kernel⟩
theorem wc_Integer_265 : Cond.constant R_Integer 265 1431655765 ∈ h_tb := h_inI 409 (by decide +kernel) rfl
theorem wc_Integer_266 : Cond.constant R_Integer 266 858993459 ∈ h_tb := h_inI 410 (by decide +kernel) rfl
theorem wc_Integer_267 : Cond.constant R_Integer 267 252645135 ∈ h_tb := h_inI 411 (by decide +kernel) rfl
theorem wc_Long_314 : Cond.constantLong R_Long 314 6148914691236517205 ∈ h_tb := h_inI 892 (by decide +kernel) rfl
theorem wc_Long_316 : Cond.constantLong R_Long 316 3689348814741910323 ∈ h_tb := h_inI 893 (by decide +kernel) rfl
theorem wc_Long_318 : Cond.constantLong R_Long 318 1085102592571150095 ∈ h_tb := h_inI 894 (by decide +kernel) rfl
theorem d_Integer_bitCount_0 : decode b_Integer_bitCount 0 = .ok (.iload_n 0, 1) := by decide +kernel
theorem d_Integer_bitCount_1 : decode b_Integer_bitCount 1 = .ok (.iload_n 0, 1) := by decide +kernel
theorem d_Integer_bitCount_2 : decode b_Integer_bitCount 2 = .ok (.iconst 1, 1) := by decide +kernel
theorem d_Integer_bitCount_3 : decode b_Integer_bitCount 3 = .ok (.iushr, 1) := by decide +kernel
theorem d_Integer_bitCount_4 : decode b_Integer_bitCount 4 = .ok (.ldc_w 265, 3) := by decide +kernel
theorem d_Integer_bitCount_7 : decode b_Integer_bitCount 7 = .ok (.iand, 1) := by decide +kernel
theorem d_Integer_bitCount_8 : decode b_Integer_bitCount 8 = .ok (.isub, 1) := by decide +kernel
theorem d_Integer_bitCount_9 : decode b_Integer_bitCount 9 = .ok (.istore_n 0, 1) := by decide +kernel
theorem d_Integer_bitCount_10 : decode b_Integer_bitCount 10 = .ok (.iload_n 0, 1) := by decide +kernel
theorem d_Integer_bitCount_11 : decode b_Integer_bitCount 11 = .ok (.ldc_w 266, 3) := by decide +kernel
theorem d_Integer_bitCount_14 : decode b_Integer_bitCount 14 = .ok (.iand, 1) := by decide +kernel
theorem d_Integer_bitCount_15 : decode b_Integer_bitCount 15 = .ok (.iload_n 0, 1) := by decide +kernel
theorem d_Integer_bitCount_16 : decode b_Integer_bitCount 16 = .ok (.iconst 2, 1) := by decide +kernel
theorem d_Integer_bitCount_17 : decode b_Integer_bitCount 17 = .ok (.iushr, 1) := by decide +kernel
theorem d_Integer_bitCount_18 : decode b_Integer_bitCount 18 = .ok (.ldc_w 266, 3) := by decide +kernel
theorem d_Integer_bitCount_21 : decode b_Integer_bitCount 21 = .ok (.iand, 1) := by decide +kernel
theorem d_Integer_bitCount_22 : decode b_Integer_bitCount 22 = .ok (.iadd, 1) := by decide +kernel
theorem d_Integer_bitCount_23 : decode b_Integer_bitCount 23 = .ok (.istore_n 0, 1) := by decide +kernel
theorem d_Integer_bitCount_24 : decode b_Integer_bitCount 24 = .ok (.iload_n 0, 1) := by decide +kernel
theorem d_Integer_bitCount_25 : decode b_Integer_bitCount 25 = .ok (.iload_n 0, 1) := by decide +kernel
theorem d_Integer_bitCount_26 : decode b_Integer_bitCount 26 = .ok (.iconst 4, 1) := by decide +kernel
theorem d_Integer_bitCount_27 : decode b_Integer_bitCount 27 = .ok (.iushr, 1) := by decide +kernel
theorem d_Integer_bitCount_28 : decode b_Integer_bitCount 28 = .ok (.iadd, 1) := by decide +kernel
theorem d_Integer_bitCount_29 : decode b_Integer_bitCount 29 = .ok (.ldc_w 267, 3) := by decide +kernel
theorem d_Integer_bitCount_32 : decode b_Integer_bitCount 32 = .ok (.iand, 1) := by decide +kernel
theorem d_Integer_bitCount_33 : decode b_Integer_bitCount 33 = .ok (.istore_n 0, 1) := by decide +kernel
theorem d_Integer_bitCount_34 : decode b_Integer_bitCount 34 = .ok (.iload_n 0, 1) := by decide +kernel
theorem d_Integer_bitCount_35 : decode b_Integer_bitCount 35 = .ok (.iload_n 0, 1) := by decide +kernel
theorem d_Integer_bitCount_36 : decode b_Integer_bitCount 36 = .ok (.bipush 8, 2) := by decide +kernel
theorem d_Integer_bitCount_38 : decode b_Integer_bitCount 38 = .ok (.iushr, 1) := by decide +kernel
theorem d_Integer_bitCount_39 : decode b_Integer_bitCount 39 = .ok (.iadd, 1) := by decide +kernel
theorem d_Integer_bitCount_40 : decode b_Integer_bitCount 40 = .ok (.istore_n 0, 1) := by decide +kernel
theorem d_Integer_bitCount_41 : decode b_Integer_bitCount 41 = .ok (.iload_n 0, 1) := by decide +kernel
theorem d_Integer_bitCount_42 : decode b_Integer_bitCount 42 = .ok (.iload_n 0, 1) := by decide +kernel
theorem d_Integer_bitCount_43 : decode b_Integer_bitCount 43 = .ok (.bipush 16, 2) := by decide +kernel
theorem d_Integer_bitCount_45 : decode b_Integer_bitCount 45 = .ok (.iushr, 1) := by decide +kernel
theorem d_Integer_bitCount_46 : decode b_Integer_bitCount 46 = .ok (.iadd, 1) := by decide +kernel
theorem d_Integer_bitCount_47 : decode b_Integer_bitCount 47 = .ok (.istore_n 0, 1) := by decide +kernel
theorem d_Integer_bitCount_48 : decode b_Integer_bitCount 48 = .ok (.iload_n 0, 1) := by decide +kernel
theorem d_Integer_bitCount_49 : decode b_Integer_bitCount 49 = .ok (.bipush 63, 2) := by decide +kernel
theorem d_Integer_bitCount_51 : decode b_Integer_bitCount 51 = .ok (.iand, 1) := by decide +kernel
theorem d_Integer_bitCount_52 : decode b_Integer_bitCount 52 = .ok (.ireturn, 1) := by decide +kernel
theorem d_Arrays_fill1_0 : decode b_Arrays_fill1 0 = .ok (.iconst 0, 1) := by decide +kernel
theorem d_Arrays_fill1_1 : decode b_Arrays_fill1 1 = .ok (.istore_n 2, 1) := by decide +kernel
theorem d_Arrays_fill1_2 : decode b_Arrays_fill1 2 = .ok (.aload_n 0, 1) := by decide +kernel
theorem d_Arrays_fill1_3 : decode b_Arrays_fill1 3 = .ok (.arraylength, 1) := by decide +kernel
theorem d_Arrays_fill1_4 : decode b_Arrays_fill1 4 = .ok (.istore_n 3, 1) := by decide +kernel
theorem d_Arrays_fill1_5 : decode b_Arrays_fill1 5 = .ok (.iload_n 2, 1) := by decide +kernel
theorem d_Arrays_fill1_6 : decode b_Arrays_fill1 6 = .ok (.iload_n 3, 1) := by decide +kernel
theorem d_Arrays_fill1_7 : decode b_Arrays_fill1 7 = .ok (.if_icmp .ge 13, 3) := by decide +kernel
theorem d_Arrays_fill1_10 : decode b_Arrays_fill1 10 = .ok (.aload_n 0, 1) := by decide +kernel
theorem d_Arrays_fill1_11 : decode b_Arrays_fill1 11 = .ok (.iload_n 2, 1) := by decide +kernel
theorem d_Arrays_fill1_12 : decode b_Arrays_fill1 12 = .ok (.iload_n 1, 1) := by decide +kernel
theorem d_Arrays_fill1_13 : decode b_Arrays_fill1 13 = .ok (.iastore, 1) := by decide +kernel
theorem d_Arrays_fill1_14 : decode b_Arrays_fill1 14 = .ok (.iinc 2 1, 3) := by decide +kernel
theorem d_Arrays_fill1_17 : decode b_Arrays_fill1 17 = .ok (.goto (-12), 3) := by decide +kernel
theorem d_Arrays_fill1_20 : decode b_Arrays_fill1 20 = .ok (.return_, 1) := by decide +kernel
theorem d_Long_bitCount_0 : decode b_Long_bitCount 0 = .ok (.lload_n 0, 1) := by decide +kernel
theorem d_Long_bitCount_1 : decode b_Long_bitCount 1 = .ok (.lload_n 0, 1) := by decide +kernel
theorem d_Long_bitCount_2 : decode b_Long_bitCount 2 = .ok (.iconst 1, 1) := by decide +kernel
theorem d_Long_bitCount_3 : decode b_Long_bitCount 3 = .ok (.lushr, 1) := by decide +kernel
theorem d_Long_bitCount_4 : decode b_Long_bitCount 4 = .ok (.ldc2_w 314, 3) := by decide +kernel
theorem d_Long_bitCount_7 : decode b_Long_bitCount 7 = .ok (.land, 1) := by decide +kernel
theorem d_Long_bitCount_8 : decode b_Long_bitCount 8 = .ok (.lsub, 1) := by decide +kernel
theorem d_Long_bitCount_9 : decode b_Long_bitCount 9 = .ok (.lstore_n 0, 1) := by decide +kernel
theorem d_Long_bitCount_10 : decode b_Long_bitCount 10 = .ok (.lload_n 0, 1) := by decide +kernel
theorem d_Long_bitCount_11 : decode b_Long_bitCount 11 = .ok (.ldc2_w 316, 3) := by decide +kernel
theorem d_Long_bitCount_14 : decode b_Long_bitCount 14 = .ok (.land, 1) := by decide +kernel
theorem d_Long_bitCount_15 : decode b_Long_bitCount 15 = .ok (.lload_n 0, 1) := by decide +kernel
theorem d_Long_bitCount_16 : decode b_Long_bitCount 16 = .ok (.iconst 2, 1) := by decide +kernel
theorem d_Long_bitCount_17 : decode b_Long_bitCount 17 = .ok (.lushr, 1) := by decide +kernel
theorem d_Long_bitCount_18 : decode b_Long_bitCount 18 = .ok (.ldc2_w 316, 3) := by decide +kernel
theorem d_Long_bitCount_21 : decode b_Long_bitCount 21 = .ok (.land, 1) := by decide +kernel
theorem d_Long_bitCount_22 : decode b_Long_bitCount 22 = .ok (.ladd, 1) := by decide +kernel
theorem d_Long_bitCount_23 : decode b_Long_bitCount 23 = .ok (.lstore_n 0, 1) := by decide +kernel
theorem d_Long_bitCount_24 : decode b_Long_bitCount 24 = .ok (.lload_n 0, 1) := by decide +kernel
theorem d_Long_bitCount_25 : decode b_Long_bitCount 25 = .ok (.lload_n 0, 1) := by decide +kernel
theorem d_Long_bitCount_26 : decode b_Long_bitCount 26 = .ok (.iconst 4, 1) := by decide +kernel
theorem d_Long_bitCount_27 : decode b_Long_bitCount 27 = .ok (.lushr, 1) := by decide +kernel
theorem d_Long_bitCount_28 : decode b_Long_bitCount 28 = .ok (.ladd, 1) := by decide +kernel
theorem d_Long_bitCount_29 : decode b_Long_bitCount 29 = .ok (.ldc2_w 318, 3) := by decide +kernel
theorem d_Long_bitCount_32 : decode b_Long_bitCount 32 = .ok (.land, 1) := by decide +kernel
theorem d_Long_bitCount_33 : decode b_Long_bitCount 33 = .ok (.lstore_n 0, 1) := by decide +kernel
theorem d_Long_bitCount_34 : decode b_Long_bitCount 34 = .ok (.lload_n 0, 1) := by decide +kernel
theorem d_Long_bitCount_35 : decode b_Long_bitCount 35 = .ok (.lload_n 0, 1) := by decide +kernel
theorem d_Long_bitCount_36 : decode b_Long_bitCount 36 = .ok (.bipush 8, 2) := by decide +kernel
theorem d_Long_bitCount_38 : decode b_Long_bitCount 38 = .ok (.lushr, 1) := by decide +kernel
theorem d_Long_bitCount_39 : decode b_Long_bitCount 39 = .ok (.ladd, 1) := by decide +kernel
theorem d_Long_bitCount_40 : decode b_Long_bitCount 40 = .ok (.lstore_n 0, 1) := by decide +kernel
theorem d_Long_bitCount_41 : decode b_Long_bitCount 41 = .ok (.lload_n 0, 1) := by decide +kernel
theorem d_Long_bitCount_42 : decode b_Long_bitCount 42 = .ok (.lload_n 0, 1) := by decide +kernel
theorem d_Long_bitCount_43 : decode b_Long_bitCount 43 = .ok (.bipush 16, 2) := by decide +kernel
theorem d_Long_bitCount_45 : decode b_Long_bitCount 45 = .ok (.lushr, 1) := by decide +kernel
theorem d_Long_bitCount_46 : decode b_Long_bitCount 46 = .ok (.ladd, 1) := by decide +kernel
theorem d_Long_bitCount_47 : decode b_Long_bitCount 47 = .ok (.lstore_n 0, 1) := by decide +kernel
theorem d_Long_bitCount_48 : decode b_Long_bitCount 48 = .ok (.lload_n 0, 1) := by decide +kernel
theorem d_Long_bitCount_49 : decode b_Long_bitCount 49 = .ok (.lload_n 0, 1) := by decide +kernel
theorem d_Long_bitCount_50 : decode b_Long_bitCount 50 = .ok (.bipush 32, 2) := by decide +kernel
theorem d_Long_bitCount_52 : decode b_Long_bitCount 52 = .ok (.lushr, 1) := by decide +kernel
theorem d_Long_bitCount_53 : decode b_Long_bitCount 53 = .ok (.ladd, 1) := by decide +kernel
theorem d_Long_bitCount_54 : decode b_Long_bitCount 54 = .ok (.lstore_n 0, 1) := by decide +kernel
theorem d_Long_bitCount_55 : decode b_Long_bitCount 55 = .ok (.lload_n 0, 1) := by decide +kernel
theorem d_Long_bitCount_56 : decode b_Long_bitCount 56 = .ok (.l2i, 1) := by decide +kernel
theorem d_Long_bitCount_57 : decode b_Long_bitCount 57 = .ok (.bipush 127, 2) := by decide +kernel
theorem d_Long_bitCount_59 : decode b_Long_bitCount 59 = .ok (.iand, 1) := by decide +kernel
theorem d_Long_bitCount_60 : decode b_Long_bitCount 60 = .ok (.ireturn, 1) := by decide +kernel
theorem d_Arrays_fill2_0 : decode b_Arrays_fill2 0 = .ok (.iconst 0, 1) := by decide +kernel
theorem d_Arrays_fill2_1 : decode b_Arrays_fill2 1 = .ok (.istore_n 3, 1) := by decide +kernel
theorem d_Arrays_fill2_2 : decode b_Arrays_fill2 2 = .ok (.aload_n 0, 1) := by decide +kernel
theorem d_Arrays_fill2_3 : decode b_Arrays_fill2 3 = .ok (.arraylength, 1) := by decide +kernel
theorem d_Arrays_fill2_4 : decode b_Arrays_fill2 4 = .ok (.istore 4, 2) := by decide +kernel
theorem d_Arrays_fill2_6 : decode b_Arrays_fill2 6 = .ok (.iload_n 3, 1) := by decide +kernel
theorem d_Arrays_fill2_7 : decode b_Arrays_fill2 7 = .ok (.iload 4, 2) := by decide +kernel
theorem d_Arrays_fill2_9 : decode b_Arrays_fill2 9 = .ok (.if_icmp .ge 13, 3) := by decide +kernel
theorem d_Arrays_fill2_12 : decode b_Arrays_fill2 12 = .ok (.aload_n 0, 1) := by decide +kernel
theorem d_Arrays_fill2_13 : decode b_Arrays_fill2 13 = .ok (.iload_n 3, 1) := by decide +kernel
theorem d_Arrays_fill2_14 : decode b_Arrays_fill2 14 = .ok (.lload_n 1, 1) := by decide +kernel
theorem d_Arrays_fill2_15 : decode b_Arrays_fill2 15 = .ok (.lastore, 1) := by decide +kernel
theorem d_Arrays_fill2_16 : decode b_Arrays_fill2 16 = .ok (.iinc 3 1, 3) := by decide +kernel
theorem d_Arrays_fill2_19 : decode b_Arrays_fill2 19 = .ok (.goto (-13), 3) := by decide +kernel
theorem d_Arrays_fill2_22 : decode b_Arrays_fill2 22 = .ok (.return_, 1) := by decide +kernel
def f_Integer_bitCount (v0 : Int32) (μ : HMem) : Option (Int32 × HMem) :=
  h_let (v0 - ((h_iushr v0 1) &&& 1431655765)) (fun v0_9 =>
  h_let ((v0_9 &&& 858993459) + ((h_iushr v0_9 2) &&& 858993459)) (fun v0_23 =>
  h_let ((v0_23 + (h_iushr v0_23 4)) &&& 252645135) (fun v0_33 =>
  h_let (v0_33 + (h_iushr v0_33 8)) (fun v0_40 =>
  h_let (v0_40 + (h_iushr v0_40 16)) (fun v0_47 =>
  some ((v0_47 &&& 63), μ))))))
def f_Arrays_fill1_L5_b  (rec_ : Nat → Int32 → Int32 → Int32 → HMem → Option (Unit × HMem)) (a0 : Nat) (v1 : Int32) (v2 : Int32) (v3 : Int32) (μ : HMem) : Option (Unit × HMem) :=
if v3 ≤ v2 then
  some ((), μ)
else
  h_chk v2 (h_len a0) (h_let (h_wi μ a0 (Int32.toNatClampNeg (v2)) v1) (fun μ_13 =>
  h_let (v2 + 1) (fun v2_14 =>
  rec_ a0 v1 v2_14 v3 μ_13)))
def f_Arrays_fill1_L5  : Nat → Nat → Int32 → Int32 → Int32 → HMem → Option (Unit × HMem)
  | 0, _, _, _, _, _ => none
  | fuel + 1, a0, v1, v2, v3, μ => f_Arrays_fill1_L5_b  (f_Arrays_fill1_L5  fuel) a0 v1 v2 v3 μ
def f_Arrays_fill1 (a0 : Nat) (v1 : Int32) (μ : HMem) : Option (Unit × HMem) :=
  h_let (nI (h_len a0)) (fun v3_4 =>
  f_Arrays_fill1_L5 h_fuel a0 v1 0 v3_4 μ)
def f_Long_bitCount (v0 : Int64) (μ : HMem) : Option (Int32 × HMem) :=
  h_let (v0 - ((h_lushr v0 1) &&& 6148914691236517205)) (fun v0_9 =>
  h_let ((v0_9 &&& 3689348814741910323) + ((h_lushr v0_9 2) &&& 3689348814741910323)) (fun v0_23 =>
  h_let ((v0_23 + (h_lushr v0_23 4)) &&& 1085102592571150095) (fun v0_33 =>
  h_let (v0_33 + (h_lushr v0_33 8)) (fun v0_40 =>
  h_let (v0_40 + (h_lushr v0_40 16)) (fun v0_47 =>
  h_let (v0_47 + (h_lushr v0_47 32)) (fun v0_54 =>
  some (((Int64.toInt32 v0_54) &&& 127), μ)))))))
def f_Arrays_fill2_L6_b  (rec_ : Nat → Int64 → Int32 → Int32 → HMem → Option (Unit × HMem)) (a0 : Nat) (v1 : Int64) (v3 : Int32) (v4 : Int32) (μ : HMem) : Option (Unit × HMem) :=
if v4 ≤ v3 then
  some ((), μ)
else
  h_chk v3 (h_len a0) (h_let (h_wl μ a0 (Int32.toNatClampNeg (v3)) v1) (fun μ_15 =>
  h_let (v3 + 1) (fun v3_16 =>
  rec_ a0 v1 v3_16 v4 μ_15)))
def f_Arrays_fill2_L6  : Nat → Nat → Int64 → Int32 → Int32 → HMem → Option (Unit × HMem)
  | 0, _, _, _, _, _ => none
  | fuel + 1, a0, v1, v3, v4, μ => f_Arrays_fill2_L6_b  (f_Arrays_fill2_L6  fuel) a0 v1 v3 v4 μ
def f_Arrays_fill2 (a0 : Nat) (v1 : Int64) (μ : HMem) : Option (Unit × HMem) :=
  h_let (nI (h_len a0)) (fun v4_4 =>
  f_Arrays_fill2_L6 h_fuel a0 v1 0 v4_4 μ)
def p_Arrays_fill1_5 (cx : HCx) (F_ : Nat → Int32 → Int32 → Int32 → HMem → Option (Unit × HMem)) : Prop := ∀ (a0 : Nat) (h_a0 : HIsI a0) (v1 : Int32) (v2 : Int32) (v3 : Int32) (μ : HMem), HX cx (HQ cx h_eV) (F_ a0 v1 v2 v3 μ) 0 0 5 [(0, .ref a0), (1, .int v1), (2, .int v2), (3, .int v3)] [] μ
def p_Arrays_fill2_6 (cx : HCx) (F_ : Nat → Int64 → Int32 → Int32 → HMem → Option (Unit × HMem)) : Prop := ∀ (a0 : Nat) (h_a0 : HIsL a0) (v1 : Int64) (v3 : Int32) (v4 : Int32) (μ : HMem), HX cx (HQ cx h_eV) (F_ a0 v1 v3 v4 μ) 0 0 6 [(0, .ref a0), (1, .long v1), (3, .int v3), (4, .int v4)] [] μ
theorem t_Integer_bitCount_0 {cx : HCx} (hg : HGood cx R_Integer b_Integer_bitCount 1 1 (some .int)) (hA : h_own cx) (v0 : Int32) (μ : HMem) : HX cx (HQ cx h_eI) (f_Integer_bitCount v0 μ) 0 0 0 [(0, .int v0)] [] μ := by
  unfold f_Integer_bitCount
  refine r_iload_n hg 0 d_Integer_bitCount_0 rfl rfl ?_
  refine r_iload_n hg 0 d_Integer_bitCount_1 rfl rfl ?_
  refine r_iconst (v := 1) hg d_Integer_bitCount_2 (by decide) ?_
  refine r_iushr hg d_Integer_bitCount_3 ?_
  refine r_ldcw hg wc_Integer_265 d_Integer_bitCount_4 ?_
  refine r_iand hg d_Integer_bitCount_7 ?_
  refine r_isub hg d_Integer_bitCount_8 ?_
  refine r_letI (fun v0_9 => ?_)
  refine r_istore_n (l' := [(0, .int v0_9)]) hg d_Integer_bitCount_9 rfl (Nat.le_of_ble_eq_true rfl) rfl ?_
  refine r_iload_n hg 0 d_Integer_bitCount_10 rfl rfl ?_
  refine r_ldcw hg wc_Integer_266 d_Integer_bitCount_11 ?_
  refine r_iand hg d_Integer_bitCount_14 ?_
  refine r_iload_n hg 0 d_Integer_bitCount_15 rfl rfl ?_
  refine r_iconst (v := 2) hg d_Integer_bitCount_16 (by decide) ?_
  refine r_iushr hg d_Integer_bitCount_17 ?_
  refine r_ldcw hg wc_Integer_266 d_Integer_bitCount_18 ?_
  refine r_iand hg d_Integer_bitCount_21 ?_
  refine r_iadd hg d_Integer_bitCount_22 ?_
  refine r_letI (fun v0_23 => ?_)
  refine r_istore_n (l' := [(0, .int v0_23)]) hg d_Integer_bitCount_23 rfl (Nat.le_of_ble_eq_true rfl) rfl ?_
  refine r_iload_n hg 0 d_Integer_bitCount_24 rfl rfl ?_
  refine r_iload_n hg 0 d_Integer_bitCount_25 rfl rfl ?_
  refine r_iconst (v := 4) hg d_Integer_bitCount_26 (by decide) ?_
  refine r_iushr hg d_Integer_bitCount_27 ?_
  refine r_iadd hg d_Integer_bitCount_28 ?_
  refine r_ldcw hg wc_Integer_267 d_Integer_bitCount_29 ?_
  refine r_iand hg d_Integer_bitCount_32 ?_
  refine r_letI (fun v0_33 => ?_)
  refine r_istore_n (l' := [(0, .int v0_33)]) hg d_Integer_bitCount_33 rfl (Nat.le_of_ble_eq_true rfl) rfl ?_
  refine r_iload_n hg 0 d_Integer_bitCount_34 rfl rfl ?_
  refine r_iload_n hg 0 d_Integer_bitCount_35 rfl rfl ?_
  refine r_bipush (v := 8) hg d_Integer_bitCount_36 (by decide) ?_
  refine r_iushr hg d_Integer_bitCount_38 ?_
  refine r_iadd hg d_Integer_bitCount_39 ?_
  refine r_letI (fun v0_40 => ?_)
  refine r_istore_n (l' := [(0, .int v0_40)]) hg d_Integer_bitCount_40 rfl (Nat.le_of_ble_eq_true rfl) rfl ?_
  refine r_iload_n hg 0 d_Integer_bitCount_41 rfl rfl ?_
  refine r_iload_n hg 0 d_Integer_bitCount_42 rfl rfl ?_
  refine r_bipush (v := 16) hg d_Integer_bitCount_43 (by decide) ?_
  refine r_iushr hg d_Integer_bitCount_45 ?_
  refine r_iadd hg d_Integer_bitCount_46 ?_
  refine r_letI (fun v0_47 => ?_)
  refine r_istore_n (l' := [(0, .int v0_47)]) hg d_Integer_bitCount_47 rfl (Nat.le_of_ble_eq_true rfl) rfl ?_
  refine r_iload_n hg 0 d_Integer_bitCount_48 rfl rfl ?_
  refine r_bipush (v := 63) hg d_Integer_bitCount_49 (by decide) ?_
  refine r_iand hg d_Integer_bitCount_51 ?_
  exact r_iret hg hA rfl d_Integer_bitCount_52 rfl
theorem t_Integer_bitCount (v0 : Int32) (μ : HMem) : HSpec y_Integer_bitCount b_Integer_bitCount 1 (some .int) 1 h_eI [.int v0] μ (f_Integer_bitCount v0 μ) :=
  HSpec.of (by decide +kernel) (v_Integer_bitCount.1 _ (by simp)) (Nat.le_of_ble_eq_true rfl) (fun cx hA hg => t_Integer_bitCount_0 hg hA v0 μ)
theorem t_Arrays_fill1_L5_b {cx : HCx} (hg : HGood cx R_Arrays b_Arrays_fill1 4 1 none) (hA : h_own cx)  (rec_ : Nat → Int32 → Int32 → Int32 → HMem → Option (Unit × HMem)) (hrec_ : p_Arrays_fill1_5 cx rec_) (a0 : Nat) (h_a0 : HIsI a0) (v1 : Int32) (v2 : Int32) (v3 : Int32) (μ : HMem) : HX cx (HQ cx h_eV) (f_Arrays_fill1_L5_b  rec_ a0 v1 v2 v3 μ) 0 0 5 [(0, .ref a0), (1, .int v1), (2, .int v2), (3, .int v3)] [] μ := by
  unfold f_Arrays_fill1_L5_b
  refine r_iload_n hg 2 d_Arrays_fill1_5 rfl rfl ?_
  refine r_iload_n hg 3 d_Arrays_fill1_6 rfl rfl ?_
  refine r_icmp_ge (tgt := 20) hg d_Arrays_fill1_7 (by decide) ?_ ?_
  · exact r_vret hg hA rfl d_Arrays_fill1_20 rfl
  · refine r_aload_n hg 0 d_Arrays_fill1_10 rfl rfl ?_
    refine r_iload_n hg 2 d_Arrays_fill1_11 rfl rfl ?_
    refine r_iload_n hg 1 d_Arrays_fill1_12 rfl rfl ?_
    refine r_iast hg (h_a0).1 (h_a0).2 d_Arrays_fill1_13 ?_
    refine r_letM (fun μ_13 => ?_)
    refine r_letE (fun v2_14 he_14 => ?_)
    refine r_iinc (v := v2_14) (l' := [(2, .int v2_14), (0, .ref a0), (1, .int v1), (3, .int v3)]) hg 2 d_Arrays_fill1_14 rfl he_14 (Nat.le_of_ble_eq_true rfl) rfl ?_
    refine r_goto (tgt := 5) hg d_Arrays_fill1_17 (by decide) ?_
    refine r_sub [1, 2, 0, 3] rfl ?_
    exact hrec_ a0 h_a0 v1 v2_14 v3 μ_13
theorem t_Arrays_fill1_L5 {cx : HCx} (hg : HGood cx R_Arrays b_Arrays_fill1 4 1 none) (hA : h_own cx)  : ∀ (fuel : Nat) (a0 : Nat) (h_a0 : HIsI a0) (v1 : Int32) (v2 : Int32) (v3 : Int32) (μ : HMem), HX cx (HQ cx h_eV) (f_Arrays_fill1_L5  fuel a0 v1 v2 v3 μ) 0 0 5 [(0, .ref a0), (1, .int v1), (2, .int v2), (3, .int v3)] [] μ
  | 0, _, _, _, _, _, _ => by unfold f_Arrays_fill1_L5; exact HX.none
  | fuel + 1, a0, h_a0, v1, v2, v3, μ => by
    rw [f_Arrays_fill1_L5]
    exact t_Arrays_fill1_L5_b hg hA   (f_Arrays_fill1_L5  fuel) (t_Arrays_fill1_L5 hg hA   fuel) a0 h_a0 v1 v2 v3 μ
theorem t_Arrays_fill1_0 {cx : HCx} (hg : HGood cx R_Arrays b_Arrays_fill1 4 1 none) (hA : h_own cx) (a0 : Nat) (h_a0 : HIsI a0) (v1 : Int32) (μ : HMem) : HX cx (HQ cx h_eV) (f_Arrays_fill1 a0 v1 μ) 0 0 0 [(0, .ref a0), (1, .int v1)] [] μ := by
  unfold f_Arrays_fill1
  refine r_iconst (v := 0) hg d_Arrays_fill1_0 (by decide) ?_
  refine r_istore_n (l' := [(2, .int 0), (0, .ref a0), (1, .int v1)]) hg d_Arrays_fill1_1 rfl (Nat.le_of_ble_eq_true rfl) rfl ?_
  refine r_aload_n hg 1 d_Arrays_fill1_2 rfl rfl ?_
  refine r_alen1 hg (h_a0).1 (h_a0).2 d_Arrays_fill1_3 ?_
  refine r_letI (fun v3_4 => ?_)
  refine r_istore_n (l' := [(3, .int v3_4), (2, .int 0), (0, .ref a0), (1, .int v1)]) hg d_Arrays_fill1_4 rfl (Nat.le_of_ble_eq_true rfl) rfl ?_
  refine r_sub [2, 3, 1, 0] rfl ?_
  exact t_Arrays_fill1_L5 hg hA h_fuel a0 h_a0 v1 0 v3_4 μ
theorem t_Arrays_fill1 (a0 : Nat) (h_a0 : HIsI a0) (v1 : Int32) (μ : HMem) : HSpec y_Arrays_fill1 b_Arrays_fill1 4 none 1 h_eV [.ref a0, .int v1] μ (f_Arrays_fill1 a0 v1 μ) :=
  HSpec.of (by decide +kernel) (v_Arrays_fill1.1 _ (by simp)) (Nat.le_of_ble_eq_true rfl) (fun cx hA hg => t_Arrays_fill1_0 hg hA a0 h_a0 v1 μ)
theorem t_Long_bitCount_0 {cx : HCx} (hg : HGood cx R_Long b_Long_bitCount 2 1 (some .int)) (hA : h_own cx) (v0 : Int64) (μ : HMem) : HX cx (HQ cx h_eI) (f_Long_bitCount v0 μ) 0 0 0 [(0, .long v0)] [] μ := by
  unfold f_Long_bitCount
  refine r_lload_n hg 0 d_Long_bitCount_0 rfl rfl ?_
  refine r_lload_n hg 0 d_Long_bitCount_1 rfl rfl ?_
  refine r_iconst (v := 1) hg d_Long_bitCount_2 (by decide) ?_
  refine r_lushr hg d_Long_bitCount_3 ?_
  refine r_ldc2 hg wc_Long_314 d_Long_bitCount_4 ?_
  refine r_land hg d_Long_bitCount_7 ?_
  refine r_lsub hg d_Long_bitCount_8 ?_
  refine r_letJ (fun v0_9 => ?_)
  refine r_lstore_n (l' := [(0, .long v0_9)]) hg d_Long_bitCount_9 rfl (Nat.le_of_ble_eq_true rfl) rfl ?_
  refine r_lload_n hg 0 d_Long_bitCount_10 rfl rfl ?_
  refine r_ldc2 hg wc_Long_316 d_Long_bitCount_11 ?_
  refine r_land hg d_Long_bitCount_14 ?_
  refine r_lload_n hg 0 d_Long_bitCount_15 rfl rfl ?_
  refine r_iconst (v := 2) hg d_Long_bitCount_16 (by decide) ?_
  refine r_lushr hg d_Long_bitCount_17 ?_
  refine r_ldc2 hg wc_Long_316 d_Long_bitCount_18 ?_
  refine r_land hg d_Long_bitCount_21 ?_
  refine r_ladd hg d_Long_bitCount_22 ?_
  refine r_letJ (fun v0_23 => ?_)
  refine r_lstore_n (l' := [(0, .long v0_23)]) hg d_Long_bitCount_23 rfl (Nat.le_of_ble_eq_true rfl) rfl ?_
  refine r_lload_n hg 0 d_Long_bitCount_24 rfl rfl ?_
  refine r_lload_n hg 0 d_Long_bitCount_25 rfl rfl ?_
  refine r_iconst (v := 4) hg d_Long_bitCount_26 (by decide) ?_
  refine r_lushr hg d_Long_bitCount_27 ?_
  refine r_ladd hg d_Long_bitCount_28 ?_
  refine r_ldc2 hg wc_Long_318 d_Long_bitCount_29 ?_
  refine r_land hg d_Long_bitCount_32 ?_
  refine r_letJ (fun v0_33 => ?_)
  refine r_lstore_n (l' := [(0, .long v0_33)]) hg d_Long_bitCount_33 rfl (Nat.le_of_ble_eq_true rfl) rfl ?_
  refine r_lload_n hg 0 d_Long_bitCount_34 rfl rfl ?_
  refine r_lload_n hg 0 d_Long_bitCount_35 rfl rfl ?_
  refine r_bipush (v := 8) hg d_Long_bitCount_36 (by decide) ?_
  refine r_lushr hg d_Long_bitCount_38 ?_
  refine r_ladd hg d_Long_bitCount_39 ?_
  refine r_letJ (fun v0_40 => ?_)
  refine r_lstore_n (l' := [(0, .long v0_40)]) hg d_Long_bitCount_40 rfl (Nat.le_of_ble_eq_true rfl) rfl ?_
  refine r_lload_n hg 0 d_Long_bitCount_41 rfl rfl ?_
  refine r_lload_n hg 0 d_Long_bitCount_42 rfl rfl ?_
  refine r_bipush (v := 16) hg d_Long_bitCount_43 (by decide) ?_
  refine r_lushr hg d_Long_bitCount_45 ?_
  refine r_ladd hg d_Long_bitCount_46 ?_
  refine r_letJ (fun v0_47 => ?_)
  refine r_lstore_n (l' := [(0, .long v0_47)]) hg d_Long_bitCount_47 rfl (Nat.le_of_ble_eq_true rfl) rfl ?_
  refine r_lload_n hg 0 d_Long_bitCount_48 rfl rfl ?_
  refine r_lload_n hg 0 d_Long_bitCount_49 rfl rfl ?_
  refine r_bipush (v := 32) hg d_Long_bitCount_50 (by decide) ?_
  refine r_lushr hg d_Long_bitCount_52 ?_
  refine r_ladd hg d_Long_bitCount_53 ?_
  refine r_letJ (fun v0_54 => ?_)
  refine r_lstore_n (l' := [(0, .long v0_54)]) hg d_Long_bitCount_54 rfl (Nat.le_of_ble_eq_true rfl) rfl ?_
  refine r_lload_n hg 0 d_Long_bitCount_55 rfl rfl ?_
  refine r_l2i hg d_Long_bitCount_56 ?_
  refine r_bipush (v := 127) hg d_Long_bitCount_57 (by decide) ?_
  refine r_iand hg d_Long_bitCount_59 ?_
  exact r_iret hg hA rfl d_Long_bitCount_60 rfl
theorem t_Long_bitCount (v0 : Int64) (μ : HMem) : HSpec y_Long_bitCount b_Long_bitCount 2 (some .int) 1 h_eI [.long v0] μ (f_Long_bitCount v0 μ) :=
  HSpec.of (by decide +kernel) (v_Long_bitCount.1 _ (by simp)) (Nat.le_of_ble_eq_true rfl) (fun cx hA hg => t_Long_bitCount_0 hg hA v0 μ)
theorem t_Arrays_fill2_L6_b {cx : HCx} (hg : HGood cx R_Arrays b_Arrays_fill2 5 1 none) (hA : h_own cx)  (rec_ : Nat → Int64 → Int32 → Int32 → HMem → Option (Unit × HMem)) (hrec_ : p_Arrays_fill2_6 cx rec_) (a0 : Nat) (h_a0 : HIsL a0) (v1 : Int64) (v3 : Int32) (v4 : Int32) (μ : HMem) : HX cx (HQ cx h_eV) (f_Arrays_fill2_L6_b  rec_ a0 v1 v3 v4 μ) 0 0 6 [(0, .ref a0), (1, .long v1), (3, .int v3), (4, .int v4)] [] μ := by
  unfold f_Arrays_fill2_L6_b
  refine r_iload_n hg 2 d_Arrays_fill2_6 rfl rfl ?_
  refine r_iload hg 3 d_Arrays_fill2_7 rfl ?_
  refine r_icmp_ge (tgt := 22) hg d_Arrays_fill2_9 (by decide) ?_ ?_
  · exact r_vret hg hA rfl d_Arrays_fill2_22 rfl
  · refine r_aload_n hg 0 d_Arrays_fill2_12 rfl rfl ?_
    refine r_iload_n hg 2 d_Arrays_fill2_13 rfl rfl ?_
    refine r_lload_n hg 1 d_Arrays_fill2_14 rfl rfl ?_
    refine r_last hg (h_a0).1 (h_a0).2 d_Arrays_fill2_15 ?_
    refine r_letM (fun μ_15 => ?_)
    refine r_letE (fun v3_16 he_16 => ?_)
    refine r_iinc (v := v3_16) (l' := [(3, .int v3_16), (0, .ref a0), (1, .long v1), (4, .int v4)]) hg 2 d_Arrays_fill2_16 rfl he_16 (Nat.le_of_ble_eq_true rfl) rfl ?_
    refine r_goto (tgt := 6) hg d_Arrays_fill2_19 (by decide) ?_
    refine r_sub [1, 2, 0, 3] rfl ?_
    exact hrec_ a0 h_a0 v1 v3_16 v4 μ_15
theorem t_Arrays_fill2_L6 {cx : HCx} (hg : HGood cx R_Arrays b_Arrays_fill2 5 1 none) (hA : h_own cx)  : ∀ (fuel : Nat) (a0 : Nat) (h_a0 : HIsL a0) (v1 : Int64) (v3 : Int32) (v4 : Int32) (μ : HMem), HX cx (HQ cx h_eV) (f_Arrays_fill2_L6  fuel a0 v1 v3 v4 μ) 0 0 6 [(0, .ref a0), (1, .long v1), (3, .int v3), (4, .int v4)] [] μ
  | 0, _, _, _, _, _, _ => by unfold f_Arrays_fill2_L6; exact HX.none
  | fuel + 1, a0, h_a0, v1, v3, v4, μ => by
    rw [f_Arrays_fill2_L6]
    exact t_Arrays_fill2_L6_b hg hA   (f_Arrays_fill2_L6  fuel) (t_Arrays_fill2_L6 hg hA   fuel) a0 h_a0 v1 v3 v4 μ
theorem t_Arrays_fill2_0 {cx : HCx} (hg : HGood cx R_Arrays b_Arrays_fill2 5 1 none) (hA : h_own cx) (a0 : Nat) (h_a0 : HIsL a0) (v1 : Int64) (μ : HMem) : HX cx (HQ cx h_eV) (f_Arrays_fill2 a0 v1 μ) 0 0 0 [(0, .ref a0), (1, .long v1)] [] μ := by
  unfold f_Arrays_fill2
  refine r_iconst (v := 0) hg d_Arrays_fill2_0 (by decide) ?_
  refine r_istore_n (l' := [(3, .int 0), (0, .ref a0), (1, .long v1)]) hg d_Arrays_fill2_1 rfl (Nat.le_of_ble_eq_true rfl) rfl ?_
  refine r_aload_n hg 1 d_Arrays_fill2_2 rfl rfl ?_
  refine r_alen4 hg (h_a0).1 (h_a0).2 d_Arrays_fill2_3 ?_
  refine r_letI (fun v4_4 => ?_)
  refine r_istore (l' := [(4, .int v4_4), (3, .int 0), (0, .ref a0), (1, .long v1)]) hg d_Arrays_fill2_4 (Nat.le_of_ble_eq_true rfl) rfl ?_
  refine r_sub [2, 3, 1, 0] rfl ?_
  exact t_Arrays_fill2_L6 hg hA h_fuel a0 h_a0 v1 0 v4_4 μ
theorem t_Arrays_fill2 (a0 : Nat) (h_a0 : HIsL a0) (v1 : Int64) (μ : HMem) : HSpec y_Arrays_fill2 b_Arrays_fill2 5 none 1 h_eV [.ref a0, .long v1] μ (f_Arrays_fill2 a0 v1 μ) :=
  HSpec.of (by decide +kernel) (v_Arrays_fill2.1 _ (by simp)) (Nat.le_of_ble_eq_true rfl) (fun cx hA hg => t_Arrays_fill2_0 hg hA a0 h_a0 v1 μ)
