/-! pure programs and their proofs: model5 (written by gen.py) -/
def y_Model_clearText : MethodName := ⟨R_Model, "clearText", "()I"⟩
abbrev b_Model_clearText : ByteArray := prog_12_method_93_code
theorem v_Model_clearText : HVirt y_Model_clearText b_Model_clearText 2 (some .int) 0 := ⟨List.forall_mem_cons.mpr ⟨h_inI 1572 (by decide +kernel) rfl, List.forall_mem_cons.mpr ⟨h_inI 1573 (by decide +kernel) rfl, List.forall_mem_cons.mpr ⟨h_inI 110 (by decide +kernel) rfl, List.forall_mem_cons.mpr ⟨h_inI 1574 (by decide +kernel) rfl, fun _ h => absurd h List.not_mem_nil⟩⟩⟩⟩, by decide, by decide, by decide +kernel⟩
def y_Model_here : MethodName := ⟨R_Model, "here", "()I"⟩
abbrev b_Model_here : ByteArray := prog_12_method_94_code
theorem v_Model_here : HVirt y_Model_here b_Model_here 1 (some .int) 0 := ⟨List.forall_mem_cons.mpr ⟨h_inI 1585 (by decide +kernel) rfl, List.forall_mem_cons.mpr ⟨h_inI 89 (by decide +kernel) rfl, List.forall_mem_cons.mpr ⟨h_inI 110 (by decide +kernel) rfl, List.forall_mem_cons.mpr ⟨h_inI 1586 (by decide +kernel) rfl, fun _ h => absurd h List.not_mem_nil⟩⟩⟩⟩, by decide, by decide, by decide +kernel⟩
def y_Model_must : MethodName := ⟨R_Model, "must", "(Z)V"⟩
abbrev b_Model_must : ByteArray := prog_12_method_95_code
theorem v_Model_must : HVirt y_Model_must b_Model_must 2 none 1 := ⟨List.forall_mem_cons.mpr ⟨h_inI 1589 (by decide +kernel) rfl, List.forall_mem_cons.mpr ⟨h_inI 90 (by decide +kernel) rfl, List.forall_mem_cons.mpr ⟨h_inI 110 (by decide +kernel) rfl, List.forall_mem_cons.mpr ⟨h_inI 1590 (by decide +kernel) rfl, fun _ h => absurd h List.not_mem_nil⟩⟩⟩⟩, by decide, by decide, by decide +kernel⟩
def y_Model_digit : MethodName := ⟨R_Model, "digit", "(I)I"⟩
abbrev b_Model_digit : ByteArray := prog_12_method_96_code
theorem v_Model_digit : HVirt y_Model_digit b_Model_digit 3 (some .int) 1 := ⟨List.forall_mem_cons.mpr ⟨h_inI 1581 (by decide +kernel) rfl, List.forall_mem_cons.mpr ⟨h_inI 88 (by decide +kernel) rfl, List.forall_mem_cons.mpr ⟨h_inI 110 (by decide +kernel) rfl, List.forall_mem_cons.mpr ⟨h_inI 1582 (by decide +kernel) rfl, fun _ h => absurd h List.not_mem_nil⟩⟩⟩⟩, by decide, by decide, by decide +kernel⟩
def y_Model_signed : MethodName := ⟨R_Model, "signed", "(I)I"⟩
abbrev b_Model_signed : ByteArray := prog_12_method_97_code
theorem v_Model_signed : HVirt y_Model_signed b_Model_signed 4 (some .int) 1 := ⟨List.forall_mem_cons.mpr ⟨h_inI 1597 (by decide +kernel) rfl, List.forall_mem_cons.mpr ⟨h_inI 92 (by decide +kernel) rfl, List.forall_mem_cons.mpr ⟨h_inI 110 (by decide +kernel) rfl, List.forall_mem_cons.mpr ⟨h_inI 1598 (by decide +kernel) rfl, fun _ h => absurd h List.not_mem_nil⟩⟩⟩⟩, by decide, by decide, by decide +kernel⟩
def y_Model_readItem : MethodName := ⟨R_Model, "readItem", "()V"⟩
abbrev b_Model_readItem : ByteArray := prog_12_method_98_code
theorem v_Model_readItem : HVirt y_Model_readItem b_Model_readItem 6 none 0 := ⟨List.forall_mem_cons.mpr ⟨h_inI 1593 (by decide +kernel) rfl, List.forall_mem_cons.mpr ⟨h_inI 91 (by decide +kernel) rfl, List.forall_mem_cons.mpr ⟨h_inI 110 (by decide +kernel) rfl, List.forall_mem_cons.mpr ⟨h_inI 1594 (by decide +kernel) rfl, fun _ h => absurd h List.not_mem_nil⟩⟩⟩⟩, by decide, by decide, by decide +kernel⟩
def y_Model_parse : MethodName := ⟨R_Model, "parse", "(I)I"⟩
abbrev b_Model_parse : ByteArray := prog_12_method_99_code
theorem v_Model_parse : HVirt y_Model_parse b_Model_parse 3 (some .int) 1 := ⟨List.forall_mem_cons.mpr ⟨h_inI 1576 (by decide +kernel) rfl, List.forall_mem_cons.mpr ⟨h_inI 1577 (by decide +kernel) rfl, List.forall_mem_cons.mpr ⟨h_inI 110 (by decide +kernel) rfl, List.forall_mem_cons.mpr ⟨h_inI 1578 (by decide +kernel) rfl, fun _ h => absurd h List.not_mem_nil⟩⟩⟩⟩, by decide, by decide, by decide +kernel⟩
def y_Model_writes : MethodName := ⟨R_Model, "writes", "(I)V"⟩
abbrev b_Model_writes : ByteArray := prog_12_method_100_code
theorem v_Model_writes : HVirt y_Model_writes b_Model_writes 2 none 1 := ⟨List.forall_mem_cons.mpr ⟨h_inI 1609 (by decide +kernel) rfl, List.forall_mem_cons.mpr ⟨h_inI 94 (by decide +kernel) rfl, List.forall_mem_cons.mpr ⟨h_inI 110 (by decide +kernel) rfl, List.forall_mem_cons.mpr ⟨h_inI 1610 (by decide +kernel) rfl, fun _ h => absurd h List.not_mem_nil⟩⟩⟩⟩, by decide, by decide, by decide +kernel⟩
def y_Model_writesWeight : MethodName := ⟨R_Model, "writesWeight", "(I)V"⟩
abbrev b_Model_writesWeight : ByteArray := prog_12_method_101_code
theorem v_Model_writesWeight : HVirt y_Model_writesWeight b_Model_writesWeight 2 none 1 := ⟨List.forall_mem_cons.mpr ⟨h_inI 1613 (by decide +kernel) rfl, List.forall_mem_cons.mpr ⟨h_inI 95 (by decide +kernel) rfl, List.forall_mem_cons.mpr ⟨h_inI 110 (by decide +kernel) rfl, List.forall_mem_cons.mpr ⟨h_inI 1614 (by decide +kernel) rfl, fun _ h => absurd h List.not_mem_nil⟩⟩⟩⟩, by decide, by decide, by decide +kernel⟩
def y_Model_writesEdge : MethodName := ⟨R_Model, "writesEdge", "(III)V"⟩
abbrev b_Model_writesEdge : ByteArray := prog_12_method_103_code
theorem v_Model_writesEdge : HVirt y_Model_writesEdge b_Model_writesEdge 4 none 3 := ⟨List.forall_mem_cons.mpr ⟨h_inI 1617 (by decide +kernel) rfl, List.forall_mem_cons.mpr ⟨h_inI 96 (by decide +kernel) rfl, List.forall_mem_cons.mpr ⟨h_inI 110 (by decide +kernel) rfl, List.forall_mem_cons.mpr ⟨h_inI 1618 (by decide +kernel) rfl, fun _ h => absurd h List.not_mem_nil⟩⟩⟩⟩, by decide, by decide, by decide +kernel⟩
def y_Model_writesGraph : MethodName := ⟨R_Model, "writesGraph", "(I)V"⟩
abbrev b_Model_writesGraph : ByteArray := prog_12_method_102_code
theorem v_Model_writesGraph : HVirt y_Model_writesGraph b_Model_writesGraph 4 none 1 := ⟨List.forall_mem_cons.mpr ⟨h_inI 1605 (by decide +kernel) rfl, List.forall_mem_cons.mpr ⟨h_inI 93 (by decide +kernel) rfl, List.forall_mem_cons.mpr ⟨h_inI 110 (by decide +kernel) rfl, List.forall_mem_cons.mpr ⟨h_inI 1606 (by decide +kernel) rfl, fun _ h => absurd h List.not_mem_nil⟩⟩⟩⟩, by decide, by decide, by decide +kernel⟩
def y_Model_written : MethodName := ⟨R_Model, "written", "(II)I"⟩
abbrev b_Model_written : ByteArray := prog_12_method_104_code
theorem v_Model_written : HVirt y_Model_written b_Model_written 3 (some .int) 2 := ⟨List.forall_mem_cons.mpr ⟨h_inI 1600 (by decide +kernel) rfl, List.forall_mem_cons.mpr ⟨h_inI 1601 (by decide +kernel) rfl, List.forall_mem_cons.mpr ⟨h_inI 110 (by decide +kernel) rfl, List.forall_mem_cons.mpr ⟨h_inI 1602 (by decide +kernel) rfl, fun _ h => absurd h List.not_mem_nil⟩⟩⟩⟩, by decide, by decide, by decide +kernel⟩
def y_Model_undo : MethodName := ⟨R_Model, "undo", "()I"⟩
abbrev b_Model_undo : ByteArray := prog_12_method_105_code
theorem v_Model_undo : HVirt y_Model_undo b_Model_undo 2 (some .int) 0 := ⟨List.forall_mem_cons.mpr ⟨h_inI 1620 (by decide +kernel) rfl, List.forall_mem_cons.mpr ⟨h_inI 1621 (by decide +kernel) rfl, List.forall_mem_cons.mpr ⟨h_inI 110 (by decide +kernel) rfl, List.forall_mem_cons.mpr ⟨h_inI 1622 (by decide +kernel) rfl, fun _ h => absurd h List.not_mem_nil⟩⟩⟩⟩, by decide, by decide, by decide +kernel⟩
def y_Model_mix : MethodName := ⟨R_Model, "mix", "(J)V"⟩
abbrev b_Model_mix : ByteArray := prog_12_method_106_code
theorem v_Model_mix : HVirt y_Model_mix b_Model_mix 3 none 1 := ⟨List.forall_mem_cons.mpr ⟨h_inI 1630 (by decide +kernel) rfl, List.forall_mem_cons.mpr ⟨h_inI 97 (by decide +kernel) rfl, List.forall_mem_cons.mpr ⟨h_inI 110 (by decide +kernel) rfl, List.forall_mem_cons.mpr ⟨h_inI 1631 (by decide +kernel) rfl, fun _ h => absurd h List.not_mem_nil⟩⟩⟩⟩, by decide, by decide, by decide +kernel⟩
def y_Model_mixGraph : MethodName := ⟨R_Model, "mixGraph", "(I)V"⟩
abbrev b_Model_mixGraph : ByteArray := prog_12_method_107_code
theorem v_Model_mixGraph : HVirt y_Model_mixGraph b_Model_mixGraph 4 none 1 := ⟨List.forall_mem_cons.mpr ⟨h_inI 1635 (by decide +kernel) rfl, List.forall_mem_cons.mpr ⟨h_inI 98 (by decide +kernel) rfl, List.forall_mem_cons.mpr ⟨h_inI 110 (by decide +kernel) rfl, List.forall_mem_cons.mpr ⟨h_inI 1636 (by decide +kernel) rfl, fun _ h => absurd h List.not_mem_nil⟩⟩⟩⟩, by decide, by decide, by decide +kernel⟩
def y_Model_digest : MethodName := ⟨R_Model, "digest", "()J"⟩
abbrev b_Model_digest : ByteArray := prog_12_method_108_code
theorem v_Model_digest : HVirt y_Model_digest b_Model_digest 2 (some .long) 0 := ⟨List.forall_mem_cons.mpr ⟨h_inI 1624 (by decide +kernel) rfl, List.forall_mem_cons.mpr ⟨h_inI 1625 (by decide +kernel) rfl, List.forall_mem_cons.mpr ⟨h_inI 110 (by decide +kernel) rfl, List.forall_mem_cons.mpr ⟨h_inI 1626 (by decide +kernel) rfl, fun _ h => absurd h List.not_mem_nil⟩⟩⟩⟩, by decide, by decide, by decide +kernel⟩
theorem wf_Model_292 : Cond.fieldLink R_Model 292 (F_Model 21).1 (F_Model 21).2.1 (F_Model 21).2.2.1 ∈ h_tb := h_inI 1148 (by decide +kernel) rfl
theorem wf_Model_295 : Cond.fieldLink R_Model 295 (F_Model 22).1 (F_Model 22).2.1 (F_Model 22).2.2.1 ∈ h_tb := h_inI 1149 (by decide +kernel) rfl
theorem wm_Model_298 : Cond.methodLink R_Model 298 y_Model_here ∈ h_tb := h_inI 1583 (by decide +kernel) rfl
theorem wm_Model_301 : Cond.methodLink R_Model 301 y_Model_must ∈ h_tb := h_inI 1587 (by decide +kernel) rfl
theorem wm_Model_305 : Cond.methodLink R_Model 305 y_Model_digit ∈ h_tb := h_inI 1579 (by decide +kernel) rfl
theorem wm_Model_308 : Cond.methodLink R_Model 308 y_Model_signed ∈ h_tb := h_inI 1595 (by decide +kernel) rfl
theorem wm_Model_311 : Cond.methodLink R_Model 311 y_Model_readItem ∈ h_tb := h_inI 1591 (by decide +kernel) rfl
theorem wf_Model_314 : Cond.fieldLink R_Model 314 (F_Model 24).1 (F_Model 24).2.1 (F_Model 24).2.2.1 ∈ h_tb := h_inI 1151 (by decide +kernel) rfl
theorem wf_Model_60 : Cond.fieldLink R_Model 60 (F_Model 23).1 (F_Model 23).2.1 (F_Model 23).2.2.1 ∈ h_tb := h_inI 1150 (by decide +kernel) rfl
theorem wm_Model_317 : Cond.methodLink R_Model 317 y_Model_writes ∈ h_tb := h_inI 1607 (by decide +kernel) rfl
theorem wm_Model_320 : Cond.methodLink R_Model 320 y_Model_writesWeight ∈ h_tb := h_inI 1611 (by decide +kernel) rfl
theorem wm_Model_323 : Cond.methodLink R_Model 323 y_Model_writesEdge ∈ h_tb := h_inI 1615 (by decide +kernel) rfl
theorem wm_Model_326 : Cond.methodLink R_Model 326 y_Model_writesGraph ∈ h_tb := h_inI 1603 (by decide +kernel) rfl
theorem wc_Model_329 : Cond.constantLong R_Model 329 31 ∈ h_tb := h_inI 1632 (by decide +kernel) rfl
theorem wf_Model_331 : Cond.fieldLink R_Model 331 (F_Model 25).1 (F_Model 25).2.1 (F_Model 25).2.2.1 ∈ h_tb := h_inI 1152 (by decide +kernel) rfl
theorem wm_Model_335 : Cond.methodLink R_Model 335 y_Model_mix ∈ h_tb := h_inI 1628 (by decide +kernel) rfl
theorem wc_Model_339 : Cond.constantLong R_Model 339 2879 ∈ h_tb := h_inI 1627 (by decide +kernel) rfl
theorem wm_Model_341 : Cond.methodLink R_Model 341 y_Model_mixGraph ∈ h_tb := h_inI 1633 (by decide +kernel) rfl
theorem d_Model_clearText_0 : decode b_Model_clearText 0 = .ok (.aload_n 0, 1) := by decide +kernel
theorem d_Model_clearText_1 : decode b_Model_clearText 1 = .ok (.getfield 289, 3) := by decide +kernel
theorem d_Model_clearText_4 : decode b_Model_clearText 4 = .ok (.istore_n 1, 1) := by decide +kernel
theorem d_Model_clearText_5 : decode b_Model_clearText 5 = .ok (.aload_n 0, 1) := by decide +kernel
theorem d_Model_clearText_6 : decode b_Model_clearText 6 = .ok (.iconst 0, 1) := by decide +kernel
theorem d_Model_clearText_7 : decode b_Model_clearText 7 = .ok (.putfield 289, 3) := by decide +kernel
theorem d_Model_clearText_10 : decode b_Model_clearText 10 = .ok (.aload_n 0, 1) := by decide +kernel
theorem d_Model_clearText_11 : decode b_Model_clearText 11 = .ok (.iload_n 1, 1) := by decide +kernel
theorem d_Model_clearText_12 : decode b_Model_clearText 12 = .ok (.invokevirtual 171, 3) := by decide +kernel
theorem d_Model_clearText_15 : decode b_Model_clearText 15 = .ok (.ireturn, 1) := by decide +kernel
theorem d_Model_here_0 : decode b_Model_here 0 = .ok (.aload_n 0, 1) := by decide +kernel
theorem d_Model_here_1 : decode b_Model_here 1 = .ok (.getfield 292, 3) := by decide +kernel
theorem d_Model_here_4 : decode b_Model_here 4 = .ok (.aload_n 0, 1) := by decide +kernel
theorem d_Model_here_5 : decode b_Model_here 5 = .ok (.getfield 289, 3) := by decide +kernel
theorem d_Model_here_8 : decode b_Model_here 8 = .ok (.if_icmp .ge 15, 3) := by decide +kernel
theorem d_Model_here_11 : decode b_Model_here 11 = .ok (.aload_n 0, 1) := by decide +kernel
theorem d_Model_here_12 : decode b_Model_here 12 = .ok (.getfield 16, 3) := by decide +kernel
theorem d_Model_here_15 : decode b_Model_here 15 = .ok (.aload_n 0, 1) := by decide +kernel
theorem d_Model_here_16 : decode b_Model_here 16 = .ok (.getfield 292, 3) := by decide +kernel
theorem d_Model_here_19 : decode b_Model_here 19 = .ok (.iaload, 1) := by decide +kernel
theorem d_Model_here_20 : decode b_Model_here 20 = .ok (.goto 4, 3) := by decide +kernel
theorem d_Model_here_23 : decode b_Model_here 23 = .ok (.iconst (-1), 1) := by decide +kernel
theorem d_Model_here_24 : decode b_Model_here 24 = .ok (.ireturn, 1) := by decide +kernel
theorem d_Model_must_0 : decode b_Model_must 0 = .ok (.aload_n 0, 1) := by decide +kernel
theorem d_Model_must_1 : decode b_Model_must 1 = .ok (.getfield 295, 3) := by decide +kernel
theorem d_Model_must_4 : decode b_Model_must 4 = .ok (.iconst (-1), 1) := by decide +kernel
theorem d_Model_must_5 : decode b_Model_must 5 = .ok (.if_icmp .ne 20, 3) := by decide +kernel
theorem d_Model_must_8 : decode b_Model_must 8 = .ok (.iload_n 1, 1) := by decide +kernel
theorem d_Model_must_9 : decode b_Model_must 9 = .ok (.ifCond .eq 16, 3) := by decide +kernel
theorem d_Model_must_12 : decode b_Model_must 12 = .ok (.aload_n 0, 1) := by decide +kernel
theorem d_Model_must_13 : decode b_Model_must 13 = .ok (.dup, 1) := by decide +kernel
theorem d_Model_must_14 : decode b_Model_must 14 = .ok (.getfield 292, 3) := by decide +kernel
theorem d_Model_must_17 : decode b_Model_must 17 = .ok (.iconst 1, 1) := by decide +kernel
theorem d_Model_must_18 : decode b_Model_must 18 = .ok (.iadd, 1) := by decide +kernel
theorem d_Model_must_19 : decode b_Model_must 19 = .ok (.putfield 292, 3) := by decide +kernel
theorem d_Model_must_22 : decode b_Model_must 22 = .ok (.goto 19, 3) := by decide +kernel
theorem d_Model_must_25 : decode b_Model_must 25 = .ok (.aload_n 0, 1) := by decide +kernel
theorem d_Model_must_26 : decode b_Model_must 26 = .ok (.getfield 295, 3) := by decide +kernel
theorem d_Model_must_29 : decode b_Model_must 29 = .ok (.iconst (-1), 1) := by decide +kernel
theorem d_Model_must_30 : decode b_Model_must 30 = .ok (.if_icmp .ne 11, 3) := by decide +kernel
theorem d_Model_must_33 : decode b_Model_must 33 = .ok (.aload_n 0, 1) := by decide +kernel
theorem d_Model_must_34 : decode b_Model_must 34 = .ok (.aload_n 0, 1) := by decide +kernel
theorem d_Model_must_35 : decode b_Model_must 35 = .ok (.getfield 292, 3) := by decide +kernel
theorem d_Model_must_38 : decode b_Model_must 38 = .ok (.putfield 295, 3) := by decide +kernel
theorem d_Model_must_41 : decode b_Model_must 41 = .ok (.return_, 1) := by decide +kernel
theorem d_Model_digit_0 : decode b_Model_digit 0 = .ok (.aload_n 0, 1) := by decide +kernel
theorem d_Model_digit_1 : decode b_Model_digit 1 = .ok (.invokevirtual 298, 3) := by decide +kernel
theorem d_Model_digit_4 : decode b_Model_digit 4 = .ok (.bipush 48, 2) := by decide +kernel
theorem d_Model_digit_6 : decode b_Model_digit 6 = .ok (.isub, 1) := by decide +kernel
theorem d_Model_digit_7 : decode b_Model_digit 7 = .ok (.istore_n 2, 1) := by decide +kernel
theorem d_Model_digit_8 : decode b_Model_digit 8 = .ok (.aload_n 0, 1) := by decide +kernel
theorem d_Model_digit_9 : decode b_Model_digit 9 = .ok (.iload_n 2, 1) := by decide +kernel
theorem d_Model_digit_10 : decode b_Model_digit 10 = .ok (.iconst 0, 1) := by decide +kernel
theorem d_Model_digit_11 : decode b_Model_digit 11 = .ok (.iload_n 1, 1) := by decide +kernel
theorem d_Model_digit_12 : decode b_Model_digit 12 = .ok (.invokestatic 67, 3) := by decide +kernel
theorem d_Model_digit_15 : decode b_Model_digit 15 = .ok (.invokevirtual 301, 3) := by decide +kernel
theorem d_Model_digit_18 : decode b_Model_digit 18 = .ok (.iload_n 2, 1) := by decide +kernel
theorem d_Model_digit_19 : decode b_Model_digit 19 = .ok (.iconst 0, 1) := by decide +kernel
theorem d_Model_digit_20 : decode b_Model_digit 20 = .ok (.iload_n 1, 1) := by decide +kernel
theorem d_Model_digit_21 : decode b_Model_digit 21 = .ok (.invokestatic 67, 3) := by decide +kernel
theorem d_Model_digit_24 : decode b_Model_digit 24 = .ok (.ifCond .eq 7, 3) := by decide +kernel
theorem d_Model_digit_27 : decode b_Model_digit 27 = .ok (.iload_n 2, 1) := by decide +kernel
theorem d_Model_digit_28 : decode b_Model_digit 28 = .ok (.goto 4, 3) := by decide +kernel
theorem d_Model_digit_31 : decode b_Model_digit 31 = .ok (.iconst 0, 1) := by decide +kernel
theorem d_Model_digit_32 : decode b_Model_digit 32 = .ok (.ireturn, 1) := by decide +kernel
theorem d_Model_signed_0 : decode b_Model_signed 0 = .ok (.aload_n 0, 1) := by decide +kernel
theorem d_Model_signed_1 : decode b_Model_signed 1 = .ok (.getfield 295, 3) := by decide +kernel
theorem d_Model_signed_4 : decode b_Model_signed 4 = .ok (.iconst (-1), 1) := by decide +kernel
theorem d_Model_signed_5 : decode b_Model_signed 5 = .ok (.if_icmp .ne 16, 3) := by decide +kernel
theorem d_Model_signed_8 : decode b_Model_signed 8 = .ok (.aload_n 0, 1) := by decide +kernel
theorem d_Model_signed_9 : decode b_Model_signed 9 = .ok (.invokevirtual 298, 3) := by decide +kernel
theorem d_Model_signed_12 : decode b_Model_signed 12 = .ok (.bipush 45, 2) := by decide +kernel
theorem d_Model_signed_14 : decode b_Model_signed 14 = .ok (.if_icmp .ne 7, 3) := by decide +kernel
theorem d_Model_signed_17 : decode b_Model_signed 17 = .ok (.iconst 1, 1) := by decide +kernel
theorem d_Model_signed_18 : decode b_Model_signed 18 = .ok (.goto 4, 3) := by decide +kernel
theorem d_Model_signed_21 : decode b_Model_signed 21 = .ok (.iconst 0, 1) := by decide +kernel
theorem d_Model_signed_22 : decode b_Model_signed 22 = .ok (.istore_n 2, 1) := by decide +kernel
theorem d_Model_signed_23 : decode b_Model_signed 23 = .ok (.aload_n 0, 1) := by decide +kernel
theorem d_Model_signed_24 : decode b_Model_signed 24 = .ok (.dup, 1) := by decide +kernel
theorem d_Model_signed_25 : decode b_Model_signed 25 = .ok (.getfield 292, 3) := by decide +kernel
theorem d_Model_signed_28 : decode b_Model_signed 28 = .ok (.iload_n 2, 1) := by decide +kernel
theorem d_Model_signed_29 : decode b_Model_signed 29 = .ok (.ifCond .eq 7, 3) := by decide +kernel
theorem d_Model_signed_32 : decode b_Model_signed 32 = .ok (.iconst 1, 1) := by decide +kernel
theorem d_Model_signed_33 : decode b_Model_signed 33 = .ok (.goto 4, 3) := by decide +kernel
theorem d_Model_signed_36 : decode b_Model_signed 36 = .ok (.iconst 0, 1) := by decide +kernel
theorem d_Model_signed_37 : decode b_Model_signed 37 = .ok (.iadd, 1) := by decide +kernel
theorem d_Model_signed_38 : decode b_Model_signed 38 = .ok (.putfield 292, 3) := by decide +kernel
theorem d_Model_signed_41 : decode b_Model_signed 41 = .ok (.aload_n 0, 1) := by decide +kernel
theorem d_Model_signed_42 : decode b_Model_signed 42 = .ok (.iload_n 1, 1) := by decide +kernel
theorem d_Model_signed_43 : decode b_Model_signed 43 = .ok (.invokevirtual 305, 3) := by decide +kernel
theorem d_Model_signed_46 : decode b_Model_signed 46 = .ok (.istore_n 3, 1) := by decide +kernel
theorem d_Model_signed_47 : decode b_Model_signed 47 = .ok (.iload_n 2, 1) := by decide +kernel
theorem d_Model_signed_48 : decode b_Model_signed 48 = .ok (.ifCond .eq 8, 3) := by decide +kernel
theorem d_Model_signed_51 : decode b_Model_signed 51 = .ok (.iload_n 3, 1) := by decide +kernel
theorem d_Model_signed_52 : decode b_Model_signed 52 = .ok (.ineg, 1) := by decide +kernel
theorem d_Model_signed_53 : decode b_Model_signed 53 = .ok (.goto 4, 3) := by decide +kernel
theorem d_Model_signed_56 : decode b_Model_signed 56 = .ok (.iload_n 3, 1) := by decide +kernel
theorem d_Model_signed_57 : decode b_Model_signed 57 = .ok (.ireturn, 1) := by decide +kernel
theorem d_Model_readItem_0 : decode b_Model_readItem 0 = .ok (.aload_n 0, 1) := by decide +kernel
theorem d_Model_readItem_1 : decode b_Model_readItem 1 = .ok (.iconst 4, 1) := by decide +kernel
theorem d_Model_readItem_2 : decode b_Model_readItem 2 = .ok (.invokevirtual 75, 3) := by decide +kernel
theorem d_Model_readItem_5 : decode b_Model_readItem 5 = .ok (.iconst 1, 1) := by decide +kernel
theorem d_Model_readItem_6 : decode b_Model_readItem 6 = .ok (.isub, 1) := by decide +kernel
theorem d_Model_readItem_7 : decode b_Model_readItem 7 = .ok (.istore_n 1, 1) := by decide +kernel
theorem d_Model_readItem_8 : decode b_Model_readItem 8 = .ok (.aload_n 0, 1) := by decide +kernel
theorem d_Model_readItem_9 : decode b_Model_readItem 9 = .ok (.aload_n 0, 1) := by decide +kernel
theorem d_Model_readItem_10 : decode b_Model_readItem 10 = .ok (.invokevirtual 298, 3) := by decide +kernel
theorem d_Model_readItem_13 : decode b_Model_readItem 13 = .ok (.bipush 59, 2) := by decide +kernel
theorem d_Model_readItem_15 : decode b_Model_readItem 15 = .ok (.if_icmp .ne 7, 3) := by decide +kernel
theorem d_Model_readItem_18 : decode b_Model_readItem 18 = .ok (.iconst 1, 1) := by decide +kernel
theorem d_Model_readItem_19 : decode b_Model_readItem 19 = .ok (.goto 4, 3) := by decide +kernel
theorem d_Model_readItem_22 : decode b_Model_readItem 22 = .ok (.iconst 0, 1) := by decide +kernel
theorem d_Model_readItem_23 : decode b_Model_readItem 23 = .ok (.invokevirtual 301, 3) := by decide +kernel
theorem d_Model_readItem_26 : decode b_Model_readItem 26 = .ok (.aload_n 0, 1) := by decide +kernel
theorem d_Model_readItem_27 : decode b_Model_readItem 27 = .ok (.invokevirtual 298, 3) := by decide +kernel
theorem d_Model_readItem_30 : decode b_Model_readItem 30 = .ok (.bipush 118, 2) := by decide +kernel
theorem d_Model_readItem_32 : decode b_Model_readItem 32 = .ok (.if_icmp .ne 73, 3) := by decide +kernel
theorem d_Model_readItem_35 : decode b_Model_readItem 35 = .ok (.aload_n 0, 1) := by decide +kernel
theorem d_Model_readItem_36 : decode b_Model_readItem 36 = .ok (.getfield 295, 3) := by decide +kernel
theorem d_Model_readItem_39 : decode b_Model_readItem 39 = .ok (.iconst (-1), 1) := by decide +kernel
theorem d_Model_readItem_40 : decode b_Model_readItem 40 = .ok (.if_icmp .ne 65, 3) := by decide +kernel
theorem d_Model_readItem_43 : decode b_Model_readItem 43 = .ok (.aload_n 0, 1) := by decide +kernel
theorem d_Model_readItem_44 : decode b_Model_readItem 44 = .ok (.dup, 1) := by decide +kernel
theorem d_Model_readItem_45 : decode b_Model_readItem 45 = .ok (.getfield 292, 3) := by decide +kernel
theorem d_Model_readItem_48 : decode b_Model_readItem 48 = .ok (.iconst 1, 1) := by decide +kernel
theorem d_Model_readItem_49 : decode b_Model_readItem 49 = .ok (.iadd, 1) := by decide +kernel
theorem d_Model_readItem_50 : decode b_Model_readItem 50 = .ok (.putfield 292, 3) := by decide +kernel
theorem d_Model_readItem_53 : decode b_Model_readItem 53 = .ok (.aload_n 0, 1) := by decide +kernel
theorem d_Model_readItem_54 : decode b_Model_readItem 54 = .ok (.iload_n 1, 1) := by decide +kernel
theorem d_Model_readItem_55 : decode b_Model_readItem 55 = .ok (.invokevirtual 305, 3) := by decide +kernel
theorem d_Model_readItem_58 : decode b_Model_readItem 58 = .ok (.istore_n 2, 1) := by decide +kernel
theorem d_Model_readItem_59 : decode b_Model_readItem 59 = .ok (.aload_n 0, 1) := by decide +kernel
theorem d_Model_readItem_60 : decode b_Model_readItem 60 = .ok (.aload_n 0, 1) := by decide +kernel
theorem d_Model_readItem_61 : decode b_Model_readItem 61 = .ok (.invokevirtual 298, 3) := by decide +kernel
theorem d_Model_readItem_64 : decode b_Model_readItem 64 = .ok (.bipush 61, 2) := by decide +kernel
theorem d_Model_readItem_66 : decode b_Model_readItem 66 = .ok (.if_icmp .ne 7, 3) := by decide +kernel
theorem d_Model_readItem_69 : decode b_Model_readItem 69 = .ok (.iconst 1, 1) := by decide +kernel
theorem d_Model_readItem_70 : decode b_Model_readItem 70 = .ok (.goto 4, 3) := by decide +kernel
theorem d_Model_readItem_73 : decode b_Model_readItem 73 = .ok (.iconst 0, 1) := by decide +kernel
theorem d_Model_readItem_74 : decode b_Model_readItem 74 = .ok (.invokevirtual 301, 3) := by decide +kernel
theorem d_Model_readItem_77 : decode b_Model_readItem 77 = .ok (.aload_n 0, 1) := by decide +kernel
theorem d_Model_readItem_78 : decode b_Model_readItem 78 = .ok (.iconst 3, 1) := by decide +kernel
theorem d_Model_readItem_79 : decode b_Model_readItem 79 = .ok (.invokevirtual 308, 3) := by decide +kernel
theorem d_Model_readItem_82 : decode b_Model_readItem 82 = .ok (.istore_n 3, 1) := by decide +kernel
theorem d_Model_readItem_83 : decode b_Model_readItem 83 = .ok (.aload_n 0, 1) := by decide +kernel
theorem d_Model_readItem_84 : decode b_Model_readItem 84 = .ok (.getfield 295, 3) := by decide +kernel
theorem d_Model_readItem_87 : decode b_Model_readItem 87 = .ok (.iconst (-1), 1) := by decide +kernel
theorem d_Model_readItem_88 : decode b_Model_readItem 88 = .ok (.if_icmp .ne 14, 3) := by decide +kernel
theorem d_Model_readItem_91 : decode b_Model_readItem 91 = .ok (.aload_n 0, 1) := by decide +kernel
theorem d_Model_readItem_92 : decode b_Model_readItem 92 = .ok (.getfield 7, 3) := by decide +kernel
theorem d_Model_readItem_95 : decode b_Model_readItem 95 = .ok (.sipush 293, 3) := by decide +kernel
theorem d_Model_readItem_98 : decode b_Model_readItem 98 = .ok (.iload_n 2, 1) := by decide +kernel
theorem d_Model_readItem_99 : decode b_Model_readItem 99 = .ok (.iadd, 1) := by decide +kernel
theorem d_Model_readItem_100 : decode b_Model_readItem 100 = .ok (.iload_n 3, 1) := by decide +kernel
theorem d_Model_readItem_101 : decode b_Model_readItem 101 = .ok (.iastore, 1) := by decide +kernel
theorem d_Model_readItem_102 : decode b_Model_readItem 102 = .ok (.goto 91, 3) := by decide +kernel
theorem d_Model_readItem_105 : decode b_Model_readItem 105 = .ok (.aload_n 0, 1) := by decide +kernel
theorem d_Model_readItem_106 : decode b_Model_readItem 106 = .ok (.iload_n 1, 1) := by decide +kernel
theorem d_Model_readItem_107 : decode b_Model_readItem 107 = .ok (.invokevirtual 305, 3) := by decide +kernel
theorem d_Model_readItem_110 : decode b_Model_readItem 110 = .ok (.istore_n 2, 1) := by decide +kernel
theorem d_Model_readItem_111 : decode b_Model_readItem 111 = .ok (.aload_n 0, 1) := by decide +kernel
theorem d_Model_readItem_112 : decode b_Model_readItem 112 = .ok (.iload_n 1, 1) := by decide +kernel
theorem d_Model_readItem_113 : decode b_Model_readItem 113 = .ok (.invokevirtual 305, 3) := by decide +kernel
theorem d_Model_readItem_116 : decode b_Model_readItem 116 = .ok (.istore_n 3, 1) := by decide +kernel
theorem d_Model_readItem_117 : decode b_Model_readItem 117 = .ok (.aload_n 0, 1) := by decide +kernel
theorem d_Model_readItem_118 : decode b_Model_readItem 118 = .ok (.getfield 295, 3) := by decide +kernel
theorem d_Model_readItem_121 : decode b_Model_readItem 121 = .ok (.iconst (-1), 1) := by decide +kernel
theorem d_Model_readItem_122 : decode b_Model_readItem 122 = .ok (.if_icmp .ne 16, 3) := by decide +kernel
theorem d_Model_readItem_125 : decode b_Model_readItem 125 = .ok (.aload_n 0, 1) := by decide +kernel
theorem d_Model_readItem_126 : decode b_Model_readItem 126 = .ok (.invokevirtual 298, 3) := by decide +kernel
theorem d_Model_readItem_129 : decode b_Model_readItem 129 = .ok (.bipush 61, 2) := by decide +kernel
theorem d_Model_readItem_131 : decode b_Model_readItem 131 = .ok (.if_icmp .ne 7, 3) := by decide +kernel
theorem d_Model_readItem_134 : decode b_Model_readItem 134 = .ok (.iconst 1, 1) := by decide +kernel
theorem d_Model_readItem_135 : decode b_Model_readItem 135 = .ok (.goto 4, 3) := by decide +kernel
theorem d_Model_readItem_138 : decode b_Model_readItem 138 = .ok (.iconst 0, 1) := by decide +kernel
theorem d_Model_readItem_139 : decode b_Model_readItem 139 = .ok (.istore 4, 2) := by decide +kernel
theorem d_Model_readItem_141 : decode b_Model_readItem 141 = .ok (.aload_n 0, 1) := by decide +kernel
theorem d_Model_readItem_142 : decode b_Model_readItem 142 = .ok (.dup, 1) := by decide +kernel
theorem d_Model_readItem_143 : decode b_Model_readItem 143 = .ok (.getfield 292, 3) := by decide +kernel
theorem d_Model_readItem_146 : decode b_Model_readItem 146 = .ok (.iload 4, 2) := by decide +kernel
theorem d_Model_readItem_148 : decode b_Model_readItem 148 = .ok (.ifCond .eq 7, 3) := by decide +kernel
theorem d_Model_readItem_151 : decode b_Model_readItem 151 = .ok (.iconst 1, 1) := by decide +kernel
theorem d_Model_readItem_152 : decode b_Model_readItem 152 = .ok (.goto 4, 3) := by decide +kernel
theorem d_Model_readItem_155 : decode b_Model_readItem 155 = .ok (.iconst 0, 1) := by decide +kernel
theorem d_Model_readItem_156 : decode b_Model_readItem 156 = .ok (.iadd, 1) := by decide +kernel
theorem d_Model_readItem_157 : decode b_Model_readItem 157 = .ok (.putfield 292, 3) := by decide +kernel
theorem d_Model_readItem_160 : decode b_Model_readItem 160 = .ok (.iload 4, 2) := by decide +kernel
theorem d_Model_readItem_162 : decode b_Model_readItem 162 = .ok (.ifCond .eq 11, 3) := by decide +kernel
theorem d_Model_readItem_165 : decode b_Model_readItem 165 = .ok (.aload_n 0, 1) := by decide +kernel
theorem d_Model_readItem_166 : decode b_Model_readItem 166 = .ok (.iconst 2, 1) := by decide +kernel
theorem d_Model_readItem_167 : decode b_Model_readItem 167 = .ok (.invokevirtual 308, 3) := by decide +kernel
theorem d_Model_readItem_170 : decode b_Model_readItem 170 = .ok (.goto 4, 3) := by decide +kernel
theorem d_Model_readItem_173 : decode b_Model_readItem 173 = .ok (.iconst 1, 1) := by decide +kernel
theorem d_Model_readItem_174 : decode b_Model_readItem 174 = .ok (.istore 5, 2) := by decide +kernel
theorem d_Model_readItem_176 : decode b_Model_readItem 176 = .ok (.aload_n 0, 1) := by decide +kernel
theorem d_Model_readItem_177 : decode b_Model_readItem 177 = .ok (.getfield 295, 3) := by decide +kernel
theorem d_Model_readItem_180 : decode b_Model_readItem 180 = .ok (.iconst (-1), 1) := by decide +kernel
theorem d_Model_readItem_181 : decode b_Model_readItem 181 = .ok (.if_icmp .ne 12, 3) := by decide +kernel
theorem d_Model_readItem_184 : decode b_Model_readItem 184 = .ok (.aload_n 0, 1) := by decide +kernel
theorem d_Model_readItem_185 : decode b_Model_readItem 185 = .ok (.iconst 4, 1) := by decide +kernel
theorem d_Model_readItem_186 : decode b_Model_readItem 186 = .ok (.iload_n 2, 1) := by decide +kernel
theorem d_Model_readItem_187 : decode b_Model_readItem 187 = .ok (.iload_n 3, 1) := by decide +kernel
theorem d_Model_readItem_188 : decode b_Model_readItem 188 = .ok (.iload 5, 2) := by decide +kernel
theorem d_Model_readItem_190 : decode b_Model_readItem 190 = .ok (.invokevirtual 111, 3) := by decide +kernel
theorem d_Model_readItem_193 : decode b_Model_readItem 193 = .ok (.return_, 1) := by decide +kernel
theorem d_Model_parse_0 : decode b_Model_parse 0 = .ok (.iload_n 1, 1) := by decide +kernel
theorem d_Model_parse_1 : decode b_Model_parse 1 = .ok (.invokestatic 71, 3) := by decide +kernel
theorem d_Model_parse_4 : decode b_Model_parse 4 = .ok (.ifCond .ne 9, 3) := by decide +kernel
theorem d_Model_parse_7 : decode b_Model_parse 7 = .ok (.aload_n 0, 1) := by decide +kernel
theorem d_Model_parse_8 : decode b_Model_parse 8 = .ok (.iconst 1, 1) := by decide +kernel
theorem d_Model_parse_9 : decode b_Model_parse 9 = .ok (.invokevirtual 93, 3) := by decide +kernel
theorem d_Model_parse_12 : decode b_Model_parse 12 = .ok (.ireturn, 1) := by decide +kernel
theorem d_Model_parse_13 : decode b_Model_parse 13 = .ok (.aload_n 0, 1) := by decide +kernel
theorem d_Model_parse_14 : decode b_Model_parse 14 = .ok (.iconst 0, 1) := by decide +kernel
theorem d_Model_parse_15 : decode b_Model_parse 15 = .ok (.putfield 292, 3) := by decide +kernel
theorem d_Model_parse_18 : decode b_Model_parse 18 = .ok (.aload_n 0, 1) := by decide +kernel
theorem d_Model_parse_19 : decode b_Model_parse 19 = .ok (.iconst (-1), 1) := by decide +kernel
theorem d_Model_parse_20 : decode b_Model_parse 20 = .ok (.putfield 295, 3) := by decide +kernel
theorem d_Model_parse_23 : decode b_Model_parse 23 = .ok (.aload_n 0, 1) := by decide +kernel
theorem d_Model_parse_24 : decode b_Model_parse 24 = .ok (.iconst 4, 1) := by decide +kernel
theorem d_Model_parse_25 : decode b_Model_parse 25 = .ok (.aload_n 0, 1) := by decide +kernel
theorem d_Model_parse_26 : decode b_Model_parse 26 = .ok (.bipush 8, 2) := by decide +kernel
theorem d_Model_parse_28 : decode b_Model_parse 28 = .ok (.invokevirtual 305, 3) := by decide +kernel
theorem d_Model_parse_31 : decode b_Model_parse 31 = .ok (.invokevirtual 96, 3) := by decide +kernel
theorem d_Model_parse_34 : decode b_Model_parse 34 = .ok (.iconst 0, 1) := by decide +kernel
theorem d_Model_parse_35 : decode b_Model_parse 35 = .ok (.istore_n 2, 1) := by decide +kernel
theorem d_Model_parse_36 : decode b_Model_parse 36 = .ok (.aload_n 0, 1) := by decide +kernel
theorem d_Model_parse_37 : decode b_Model_parse 37 = .ok (.getfield 295, 3) := by decide +kernel
theorem d_Model_parse_40 : decode b_Model_parse 40 = .ok (.iconst (-1), 1) := by decide +kernel
theorem d_Model_parse_41 : decode b_Model_parse 41 = .ok (.if_icmp .ne 24, 3) := by decide +kernel
theorem d_Model_parse_44 : decode b_Model_parse 44 = .ok (.aload_n 0, 1) := by decide +kernel
theorem d_Model_parse_45 : decode b_Model_parse 45 = .ok (.getfield 292, 3) := by decide +kernel
theorem d_Model_parse_48 : decode b_Model_parse 48 = .ok (.aload_n 0, 1) := by decide +kernel
theorem d_Model_parse_49 : decode b_Model_parse 49 = .ok (.getfield 289, 3) := by decide +kernel
theorem d_Model_parse_52 : decode b_Model_parse 52 = .ok (.if_icmp .ge 13, 3) := by decide +kernel
theorem d_Model_parse_55 : decode b_Model_parse 55 = .ok (.aload_n 0, 1) := by decide +kernel
theorem d_Model_parse_56 : decode b_Model_parse 56 = .ok (.invokevirtual 311, 3) := by decide +kernel
theorem d_Model_parse_59 : decode b_Model_parse 59 = .ok (.iinc 2 1, 3) := by decide +kernel
theorem d_Model_parse_62 : decode b_Model_parse 62 = .ok (.goto (-26), 3) := by decide +kernel
theorem d_Model_parse_65 : decode b_Model_parse 65 = .ok (.aload_n 0, 1) := by decide +kernel
theorem d_Model_parse_66 : decode b_Model_parse 66 = .ok (.getfield 295, 3) := by decide +kernel
theorem d_Model_parse_69 : decode b_Model_parse 69 = .ok (.iconst (-1), 1) := by decide +kernel
theorem d_Model_parse_70 : decode b_Model_parse 70 = .ok (.if_icmp .eq 15, 3) := by decide +kernel
theorem d_Model_parse_73 : decode b_Model_parse 73 = .ok (.aload_n 0, 1) := by decide +kernel
theorem d_Model_parse_74 : decode b_Model_parse 74 = .ok (.bipush (-10), 2) := by decide +kernel
theorem d_Model_parse_76 : decode b_Model_parse 76 = .ok (.aload_n 0, 1) := by decide +kernel
theorem d_Model_parse_77 : decode b_Model_parse 77 = .ok (.getfield 295, 3) := by decide +kernel
theorem d_Model_parse_80 : decode b_Model_parse 80 = .ok (.isub, 1) := by decide +kernel
theorem d_Model_parse_81 : decode b_Model_parse 81 = .ok (.invokevirtual 171, 3) := by decide +kernel
theorem d_Model_parse_84 : decode b_Model_parse 84 = .ok (.ireturn, 1) := by decide +kernel
theorem d_Model_parse_85 : decode b_Model_parse 85 = .ok (.aload_n 0, 1) := by decide +kernel
theorem d_Model_parse_86 : decode b_Model_parse 86 = .ok (.iload_n 1, 1) := by decide +kernel
theorem d_Model_parse_87 : decode b_Model_parse 87 = .ok (.invokevirtual 99, 3) := by decide +kernel
theorem d_Model_parse_90 : decode b_Model_parse 90 = .ok (.iload_n 2, 1) := by decide +kernel
theorem d_Model_parse_91 : decode b_Model_parse 91 = .ok (.ireturn, 1) := by decide +kernel
theorem d_Model_writes_0 : decode b_Model_writes 0 = .ok (.aload_n 0, 1) := by decide +kernel
theorem d_Model_writes_1 : decode b_Model_writes 1 = .ok (.getfield 60, 3) := by decide +kernel
theorem d_Model_writes_4 : decode b_Model_writes 4 = .ok (.aload_n 0, 1) := by decide +kernel
theorem d_Model_writes_5 : decode b_Model_writes 5 = .ok (.getfield 314, 3) := by decide +kernel
theorem d_Model_writes_8 : decode b_Model_writes 8 = .ok (.iload_n 1, 1) := by decide +kernel
theorem d_Model_writes_9 : decode b_Model_writes 9 = .ok (.iastore, 1) := by decide +kernel
theorem d_Model_writes_10 : decode b_Model_writes 10 = .ok (.aload_n 0, 1) := by decide +kernel
theorem d_Model_writes_11 : decode b_Model_writes 11 = .ok (.dup, 1) := by decide +kernel
theorem d_Model_writes_12 : decode b_Model_writes 12 = .ok (.getfield 314, 3) := by decide +kernel
theorem d_Model_writes_15 : decode b_Model_writes 15 = .ok (.iconst 1, 1) := by decide +kernel
theorem d_Model_writes_16 : decode b_Model_writes 16 = .ok (.iadd, 1) := by decide +kernel
theorem d_Model_writes_17 : decode b_Model_writes 17 = .ok (.putfield 314, 3) := by decide +kernel
theorem d_Model_writes_20 : decode b_Model_writes 20 = .ok (.return_, 1) := by decide +kernel
theorem d_Model_writesWeight_0 : decode b_Model_writesWeight 0 = .ok (.aload_n 0, 1) := by decide +kernel
theorem d_Model_writesWeight_1 : decode b_Model_writesWeight 1 = .ok (.bipush 61, 2) := by decide +kernel
theorem d_Model_writesWeight_3 : decode b_Model_writesWeight 3 = .ok (.invokevirtual 317, 3) := by decide +kernel
theorem d_Model_writesWeight_6 : decode b_Model_writesWeight 6 = .ok (.iload_n 1, 1) := by decide +kernel
theorem d_Model_writesWeight_7 : decode b_Model_writesWeight 7 = .ok (.ifCond .ge 9, 3) := by decide +kernel
theorem d_Model_writesWeight_10 : decode b_Model_writesWeight 10 = .ok (.aload_n 0, 1) := by decide +kernel
theorem d_Model_writesWeight_11 : decode b_Model_writesWeight 11 = .ok (.bipush 45, 2) := by decide +kernel
theorem d_Model_writesWeight_13 : decode b_Model_writesWeight 13 = .ok (.invokevirtual 317, 3) := by decide +kernel
theorem d_Model_writesWeight_16 : decode b_Model_writesWeight 16 = .ok (.aload_n 0, 1) := by decide +kernel
theorem d_Model_writesWeight_17 : decode b_Model_writesWeight 17 = .ok (.bipush 48, 2) := by decide +kernel
theorem d_Model_writesWeight_19 : decode b_Model_writesWeight 19 = .ok (.iload_n 1, 1) := by decide +kernel
theorem d_Model_writesWeight_20 : decode b_Model_writesWeight 20 = .ok (.ifCond .ge 8, 3) := by decide +kernel
theorem d_Model_writesWeight_23 : decode b_Model_writesWeight 23 = .ok (.iload_n 1, 1) := by decide +kernel
theorem d_Model_writesWeight_24 : decode b_Model_writesWeight 24 = .ok (.ineg, 1) := by decide +kernel
theorem d_Model_writesWeight_25 : decode b_Model_writesWeight 25 = .ok (.goto 4, 3) := by decide +kernel
theorem d_Model_writesWeight_28 : decode b_Model_writesWeight 28 = .ok (.iload_n 1, 1) := by decide +kernel
theorem d_Model_writesWeight_29 : decode b_Model_writesWeight 29 = .ok (.iadd, 1) := by decide +kernel
theorem d_Model_writesWeight_30 : decode b_Model_writesWeight 30 = .ok (.invokevirtual 317, 3) := by decide +kernel
theorem d_Model_writesWeight_33 : decode b_Model_writesWeight 33 = .ok (.return_, 1) := by decide +kernel
theorem d_Model_writesEdge_0 : decode b_Model_writesEdge 0 = .ok (.iload_n 3, 1) := by decide +kernel
theorem d_Model_writesEdge_1 : decode b_Model_writesEdge 1 = .ok (.ifCond .eq 35, 3) := by decide +kernel
theorem d_Model_writesEdge_4 : decode b_Model_writesEdge 4 = .ok (.aload_n 0, 1) := by decide +kernel
theorem d_Model_writesEdge_5 : decode b_Model_writesEdge 5 = .ok (.bipush 59, 2) := by decide +kernel
theorem d_Model_writesEdge_7 : decode b_Model_writesEdge 7 = .ok (.invokevirtual 317, 3) := by decide +kernel
theorem d_Model_writesEdge_10 : decode b_Model_writesEdge 10 = .ok (.aload_n 0, 1) := by decide +kernel
theorem d_Model_writesEdge_11 : decode b_Model_writesEdge 11 = .ok (.bipush 48, 2) := by decide +kernel
theorem d_Model_writesEdge_13 : decode b_Model_writesEdge 13 = .ok (.iload_n 1, 1) := by decide +kernel
theorem d_Model_writesEdge_14 : decode b_Model_writesEdge 14 = .ok (.iadd, 1) := by decide +kernel
theorem d_Model_writesEdge_15 : decode b_Model_writesEdge 15 = .ok (.invokevirtual 317, 3) := by decide +kernel
theorem d_Model_writesEdge_18 : decode b_Model_writesEdge 18 = .ok (.aload_n 0, 1) := by decide +kernel
theorem d_Model_writesEdge_19 : decode b_Model_writesEdge 19 = .ok (.bipush 48, 2) := by decide +kernel
theorem d_Model_writesEdge_21 : decode b_Model_writesEdge 21 = .ok (.iload_n 2, 1) := by decide +kernel
theorem d_Model_writesEdge_22 : decode b_Model_writesEdge 22 = .ok (.iadd, 1) := by decide +kernel
theorem d_Model_writesEdge_23 : decode b_Model_writesEdge 23 = .ok (.invokevirtual 317, 3) := by decide +kernel
theorem d_Model_writesEdge_26 : decode b_Model_writesEdge 26 = .ok (.iload_n 3, 1) := by decide +kernel
theorem d_Model_writesEdge_27 : decode b_Model_writesEdge 27 = .ok (.iconst 1, 1) := by decide +kernel
theorem d_Model_writesEdge_28 : decode b_Model_writesEdge 28 = .ok (.if_icmp .eq 8, 3) := by decide +kernel
theorem d_Model_writesEdge_31 : decode b_Model_writesEdge 31 = .ok (.aload_n 0, 1) := by decide +kernel
theorem d_Model_writesEdge_32 : decode b_Model_writesEdge 32 = .ok (.iload_n 3, 1) := by decide +kernel
theorem d_Model_writesEdge_33 : decode b_Model_writesEdge 33 = .ok (.invokevirtual 320, 3) := by decide +kernel
theorem d_Model_writesEdge_36 : decode b_Model_writesEdge 36 = .ok (.return_, 1) := by decide +kernel
theorem d_Model_writesGraph_0 : decode b_Model_writesGraph 0 = .ok (.aload_n 0, 1) := by decide +kernel
theorem d_Model_writesGraph_1 : decode b_Model_writesGraph 1 = .ok (.iconst 0, 1) := by decide +kernel
theorem d_Model_writesGraph_2 : decode b_Model_writesGraph 2 = .ok (.putfield 314, 3) := by decide +kernel
theorem d_Model_writesGraph_5 : decode b_Model_writesGraph 5 = .ok (.aload_n 0, 1) := by decide +kernel
theorem d_Model_writesGraph_6 : decode b_Model_writesGraph 6 = .ok (.bipush 48, 2) := by decide +kernel
theorem d_Model_writesGraph_8 : decode b_Model_writesGraph 8 = .ok (.aload_n 0, 1) := by decide +kernel
theorem d_Model_writesGraph_9 : decode b_Model_writesGraph 9 = .ok (.iload_n 1, 1) := by decide +kernel
theorem d_Model_writesGraph_10 : decode b_Model_writesGraph 10 = .ok (.invokevirtual 75, 3) := by decide +kernel
theorem d_Model_writesGraph_13 : decode b_Model_writesGraph 13 = .ok (.iadd, 1) := by decide +kernel
theorem d_Model_writesGraph_14 : decode b_Model_writesGraph 14 = .ok (.invokevirtual 317, 3) := by decide +kernel
theorem d_Model_writesGraph_17 : decode b_Model_writesGraph 17 = .ok (.iconst 0, 1) := by decide +kernel
theorem d_Model_writesGraph_18 : decode b_Model_writesGraph 18 = .ok (.istore_n 2, 1) := by decide +kernel
theorem d_Model_writesGraph_19 : decode b_Model_writesGraph 19 = .ok (.iload_n 2, 1) := by decide +kernel
theorem d_Model_writesGraph_20 : decode b_Model_writesGraph 20 = .ok (.aload_n 0, 1) := by decide +kernel
theorem d_Model_writesGraph_21 : decode b_Model_writesGraph 21 = .ok (.iload_n 1, 1) := by decide +kernel
theorem d_Model_writesGraph_22 : decode b_Model_writesGraph 22 = .ok (.invokevirtual 75, 3) := by decide +kernel
theorem d_Model_writesGraph_25 : decode b_Model_writesGraph 25 = .ok (.if_icmp .ge 49, 3) := by decide +kernel
theorem d_Model_writesGraph_28 : decode b_Model_writesGraph 28 = .ok (.aload_n 0, 1) := by decide +kernel
theorem d_Model_writesGraph_29 : decode b_Model_writesGraph 29 = .ok (.iload_n 1, 1) := by decide +kernel
theorem d_Model_writesGraph_30 : decode b_Model_writesGraph 30 = .ok (.iload_n 2, 1) := by decide +kernel
theorem d_Model_writesGraph_31 : decode b_Model_writesGraph 31 = .ok (.invokevirtual 107, 3) := by decide +kernel
theorem d_Model_writesGraph_34 : decode b_Model_writesGraph 34 = .ok (.iconst 1, 1) := by decide +kernel
theorem d_Model_writesGraph_35 : decode b_Model_writesGraph 35 = .ok (.if_icmp .eq 33, 3) := by decide +kernel
theorem d_Model_writesGraph_38 : decode b_Model_writesGraph 38 = .ok (.aload_n 0, 1) := by decide +kernel
theorem d_Model_writesGraph_39 : decode b_Model_writesGraph 39 = .ok (.bipush 59, 2) := by decide +kernel
theorem d_Model_writesGraph_41 : decode b_Model_writesGraph 41 = .ok (.invokevirtual 317, 3) := by decide +kernel
theorem d_Model_writesGraph_44 : decode b_Model_writesGraph 44 = .ok (.aload_n 0, 1) := by decide +kernel
theorem d_Model_writesGraph_45 : decode b_Model_writesGraph 45 = .ok (.bipush 118, 2) := by decide +kernel
theorem d_Model_writesGraph_47 : decode b_Model_writesGraph 47 = .ok (.invokevirtual 317, 3) := by decide +kernel
theorem d_Model_writesGraph_50 : decode b_Model_writesGraph 50 = .ok (.aload_n 0, 1) := by decide +kernel
theorem d_Model_writesGraph_51 : decode b_Model_writesGraph 51 = .ok (.bipush 48, 2) := by decide +kernel
theorem d_Model_writesGraph_53 : decode b_Model_writesGraph 53 = .ok (.iload_n 2, 1) := by decide +kernel
theorem d_Model_writesGraph_54 : decode b_Model_writesGraph 54 = .ok (.iadd, 1) := by decide +kernel
theorem d_Model_writesGraph_55 : decode b_Model_writesGraph 55 = .ok (.invokevirtual 317, 3) := by decide +kernel
theorem d_Model_writesGraph_58 : decode b_Model_writesGraph 58 = .ok (.aload_n 0, 1) := by decide +kernel
theorem d_Model_writesGraph_59 : decode b_Model_writesGraph 59 = .ok (.aload_n 0, 1) := by decide +kernel
theorem d_Model_writesGraph_60 : decode b_Model_writesGraph 60 = .ok (.iload_n 1, 1) := by decide +kernel
theorem d_Model_writesGraph_61 : decode b_Model_writesGraph 61 = .ok (.iload_n 2, 1) := by decide +kernel
theorem d_Model_writesGraph_62 : decode b_Model_writesGraph 62 = .ok (.invokevirtual 107, 3) := by decide +kernel
theorem d_Model_writesGraph_65 : decode b_Model_writesGraph 65 = .ok (.invokevirtual 320, 3) := by decide +kernel
theorem d_Model_writesGraph_68 : decode b_Model_writesGraph 68 = .ok (.iinc 2 1, 3) := by decide +kernel
theorem d_Model_writesGraph_71 : decode b_Model_writesGraph 71 = .ok (.goto (-52), 3) := by decide +kernel
theorem d_Model_writesGraph_74 : decode b_Model_writesGraph 74 = .ok (.iconst 0, 1) := by decide +kernel
theorem d_Model_writesGraph_75 : decode b_Model_writesGraph 75 = .ok (.istore_n 2, 1) := by decide +kernel
theorem d_Model_writesGraph_76 : decode b_Model_writesGraph 76 = .ok (.iload_n 2, 1) := by decide +kernel
theorem d_Model_writesGraph_77 : decode b_Model_writesGraph 77 = .ok (.aload_n 0, 1) := by decide +kernel
theorem d_Model_writesGraph_78 : decode b_Model_writesGraph 78 = .ok (.iload_n 1, 1) := by decide +kernel
theorem d_Model_writesGraph_79 : decode b_Model_writesGraph 79 = .ok (.invokevirtual 75, 3) := by decide +kernel
theorem d_Model_writesGraph_82 : decode b_Model_writesGraph 82 = .ok (.if_icmp .ge 39, 3) := by decide +kernel
theorem d_Model_writesGraph_85 : decode b_Model_writesGraph 85 = .ok (.iload_n 2, 1) := by decide +kernel
theorem d_Model_writesGraph_86 : decode b_Model_writesGraph 86 = .ok (.istore_n 3, 1) := by decide +kernel
theorem d_Model_writesGraph_87 : decode b_Model_writesGraph 87 = .ok (.iload_n 3, 1) := by decide +kernel
theorem d_Model_writesGraph_88 : decode b_Model_writesGraph 88 = .ok (.aload_n 0, 1) := by decide +kernel
theorem d_Model_writesGraph_89 : decode b_Model_writesGraph 89 = .ok (.iload_n 1, 1) := by decide +kernel
theorem d_Model_writesGraph_90 : decode b_Model_writesGraph 90 = .ok (.invokevirtual 75, 3) := by decide +kernel
theorem d_Model_writesGraph_93 : decode b_Model_writesGraph 93 = .ok (.if_icmp .ge 22, 3) := by decide +kernel
theorem d_Model_writesGraph_96 : decode b_Model_writesGraph 96 = .ok (.aload_n 0, 1) := by decide +kernel
theorem d_Model_writesGraph_97 : decode b_Model_writesGraph 97 = .ok (.iload_n 2, 1) := by decide +kernel
theorem d_Model_writesGraph_98 : decode b_Model_writesGraph 98 = .ok (.iload_n 3, 1) := by decide +kernel
theorem d_Model_writesGraph_99 : decode b_Model_writesGraph 99 = .ok (.aload_n 0, 1) := by decide +kernel
theorem d_Model_writesGraph_100 : decode b_Model_writesGraph 100 = .ok (.iload_n 1, 1) := by decide +kernel
theorem d_Model_writesGraph_101 : decode b_Model_writesGraph 101 = .ok (.iload_n 2, 1) := by decide +kernel
theorem d_Model_writesGraph_102 : decode b_Model_writesGraph 102 = .ok (.iload_n 3, 1) := by decide +kernel
theorem d_Model_writesGraph_103 : decode b_Model_writesGraph 103 = .ok (.invokevirtual 79, 3) := by decide +kernel
theorem d_Model_writesGraph_106 : decode b_Model_writesGraph 106 = .ok (.invokevirtual 323, 3) := by decide +kernel
theorem d_Model_writesGraph_109 : decode b_Model_writesGraph 109 = .ok (.iinc 3 1, 3) := by decide +kernel
theorem d_Model_writesGraph_112 : decode b_Model_writesGraph 112 = .ok (.goto (-25), 3) := by decide +kernel
theorem d_Model_writesGraph_115 : decode b_Model_writesGraph 115 = .ok (.iinc 2 1, 3) := by decide +kernel
theorem d_Model_writesGraph_118 : decode b_Model_writesGraph 118 = .ok (.goto (-42), 3) := by decide +kernel
theorem d_Model_writesGraph_121 : decode b_Model_writesGraph 121 = .ok (.return_, 1) := by decide +kernel
theorem d_Model_written_0 : decode b_Model_written 0 = .ok (.iload_n 1, 1) := by decide +kernel
theorem d_Model_written_1 : decode b_Model_written 1 = .ok (.invokestatic 71, 3) := by decide +kernel
theorem d_Model_written_4 : decode b_Model_written 4 = .ok (.ifCond .ne 9, 3) := by decide +kernel
theorem d_Model_written_7 : decode b_Model_written 7 = .ok (.aload_n 0, 1) := by decide +kernel
theorem d_Model_written_8 : decode b_Model_written 8 = .ok (.iconst 1, 1) := by decide +kernel
theorem d_Model_written_9 : decode b_Model_written 9 = .ok (.invokevirtual 93, 3) := by decide +kernel
theorem d_Model_written_12 : decode b_Model_written 12 = .ok (.ireturn, 1) := by decide +kernel
theorem d_Model_written_13 : decode b_Model_written 13 = .ok (.iload_n 2, 1) := by decide +kernel
theorem d_Model_written_14 : decode b_Model_written 14 = .ok (.ifCond .ge 9, 3) := by decide +kernel
theorem d_Model_written_17 : decode b_Model_written 17 = .ok (.aload_n 0, 1) := by decide +kernel
theorem d_Model_written_18 : decode b_Model_written 18 = .ok (.iconst 2, 1) := by decide +kernel
theorem d_Model_written_19 : decode b_Model_written 19 = .ok (.invokevirtual 93, 3) := by decide +kernel
theorem d_Model_written_22 : decode b_Model_written 22 = .ok (.ireturn, 1) := by decide +kernel
theorem d_Model_written_23 : decode b_Model_written 23 = .ok (.aload_n 0, 1) := by decide +kernel
theorem d_Model_written_24 : decode b_Model_written 24 = .ok (.iload_n 1, 1) := by decide +kernel
theorem d_Model_written_25 : decode b_Model_written 25 = .ok (.invokevirtual 326, 3) := by decide +kernel
theorem d_Model_written_28 : decode b_Model_written 28 = .ok (.aload_n 0, 1) := by decide +kernel
theorem d_Model_written_29 : decode b_Model_written 29 = .ok (.iload_n 2, 1) := by decide +kernel
theorem d_Model_written_30 : decode b_Model_written 30 = .ok (.aload_n 0, 1) := by decide +kernel
theorem d_Model_written_31 : decode b_Model_written 31 = .ok (.getfield 314, 3) := by decide +kernel
theorem d_Model_written_34 : decode b_Model_written 34 = .ok (.if_icmp .ge 12, 3) := by decide +kernel
theorem d_Model_written_37 : decode b_Model_written 37 = .ok (.aload_n 0, 1) := by decide +kernel
theorem d_Model_written_38 : decode b_Model_written 38 = .ok (.getfield 60, 3) := by decide +kernel
theorem d_Model_written_41 : decode b_Model_written 41 = .ok (.iload_n 2, 1) := by decide +kernel
theorem d_Model_written_42 : decode b_Model_written 42 = .ok (.iaload, 1) := by decide +kernel
theorem d_Model_written_43 : decode b_Model_written 43 = .ok (.goto 4, 3) := by decide +kernel
theorem d_Model_written_46 : decode b_Model_written 46 = .ok (.iconst (-1), 1) := by decide +kernel
theorem d_Model_written_47 : decode b_Model_written 47 = .ok (.invokevirtual 171, 3) := by decide +kernel
theorem d_Model_written_50 : decode b_Model_written 50 = .ok (.ireturn, 1) := by decide +kernel
theorem d_Model_undo_0 : decode b_Model_undo 0 = .ok (.aload_n 0, 1) := by decide +kernel
theorem d_Model_undo_1 : decode b_Model_undo 1 = .ok (.getfield 83, 3) := by decide +kernel
theorem d_Model_undo_4 : decode b_Model_undo 4 = .ok (.ifCond .ne 9, 3) := by decide +kernel
theorem d_Model_undo_7 : decode b_Model_undo 7 = .ok (.aload_n 0, 1) := by decide +kernel
theorem d_Model_undo_8 : decode b_Model_undo 8 = .ok (.iconst 1, 1) := by decide +kernel
theorem d_Model_undo_9 : decode b_Model_undo 9 = .ok (.invokevirtual 93, 3) := by decide +kernel
theorem d_Model_undo_12 : decode b_Model_undo 12 = .ok (.ireturn, 1) := by decide +kernel
theorem d_Model_undo_13 : decode b_Model_undo 13 = .ok (.aload_n 0, 1) := by decide +kernel
theorem d_Model_undo_14 : decode b_Model_undo 14 = .ok (.dup, 1) := by decide +kernel
theorem d_Model_undo_15 : decode b_Model_undo 15 = .ok (.getfield 83, 3) := by decide +kernel
theorem d_Model_undo_18 : decode b_Model_undo 18 = .ok (.iconst 1, 1) := by decide +kernel
theorem d_Model_undo_19 : decode b_Model_undo 19 = .ok (.isub, 1) := by decide +kernel
theorem d_Model_undo_20 : decode b_Model_undo 20 = .ok (.putfield 83, 3) := by decide +kernel
theorem d_Model_undo_23 : decode b_Model_undo 23 = .ok (.iconst 0, 1) := by decide +kernel
theorem d_Model_undo_24 : decode b_Model_undo 24 = .ok (.istore_n 1, 1) := by decide +kernel
theorem d_Model_undo_25 : decode b_Model_undo 25 = .ok (.iload_n 1, 1) := by decide +kernel
theorem d_Model_undo_26 : decode b_Model_undo 26 = .ok (.sipush 292, 3) := by decide +kernel
theorem d_Model_undo_29 : decode b_Model_undo 29 = .ok (.if_icmp .ge 30, 3) := by decide +kernel
theorem d_Model_undo_32 : decode b_Model_undo 32 = .ok (.aload_n 0, 1) := by decide +kernel
theorem d_Model_undo_33 : decode b_Model_undo 33 = .ok (.getfield 7, 3) := by decide +kernel
theorem d_Model_undo_36 : decode b_Model_undo 36 = .ok (.iload_n 1, 1) := by decide +kernel
theorem d_Model_undo_37 : decode b_Model_undo 37 = .ok (.aload_n 0, 1) := by decide +kernel
theorem d_Model_undo_38 : decode b_Model_undo 38 = .ok (.getfield 13, 3) := by decide +kernel
theorem d_Model_undo_41 : decode b_Model_undo 41 = .ok (.sipush 292, 3) := by decide +kernel
theorem d_Model_undo_44 : decode b_Model_undo 44 = .ok (.aload_n 0, 1) := by decide +kernel
theorem d_Model_undo_45 : decode b_Model_undo 45 = .ok (.getfield 83, 3) := by decide +kernel
theorem d_Model_undo_48 : decode b_Model_undo 48 = .ok (.imul, 1) := by decide +kernel
theorem d_Model_undo_49 : decode b_Model_undo 49 = .ok (.iload_n 1, 1) := by decide +kernel
theorem d_Model_undo_50 : decode b_Model_undo 50 = .ok (.iadd, 1) := by decide +kernel
theorem d_Model_undo_51 : decode b_Model_undo 51 = .ok (.iaload, 1) := by decide +kernel
theorem d_Model_undo_52 : decode b_Model_undo 52 = .ok (.iastore, 1) := by decide +kernel
theorem d_Model_undo_53 : decode b_Model_undo 53 = .ok (.iinc 1 1, 3) := by decide +kernel
theorem d_Model_undo_56 : decode b_Model_undo 56 = .ok (.goto (-31), 3) := by decide +kernel
theorem d_Model_undo_59 : decode b_Model_undo 59 = .ok (.aload_n 0, 1) := by decide +kernel
theorem d_Model_undo_60 : decode b_Model_undo 60 = .ok (.aload_n 0, 1) := by decide +kernel
theorem d_Model_undo_61 : decode b_Model_undo 61 = .ok (.getfield 83, 3) := by decide +kernel
theorem d_Model_undo_64 : decode b_Model_undo 64 = .ok (.invokevirtual 171, 3) := by decide +kernel
theorem d_Model_undo_67 : decode b_Model_undo 67 = .ok (.ireturn, 1) := by decide +kernel
theorem d_Model_mix_0 : decode b_Model_mix 0 = .ok (.aload_n 0, 1) := by decide +kernel
theorem d_Model_mix_1 : decode b_Model_mix 1 = .ok (.ldc2_w 329, 3) := by decide +kernel
theorem d_Model_mix_4 : decode b_Model_mix 4 = .ok (.aload_n 0, 1) := by decide +kernel
theorem d_Model_mix_5 : decode b_Model_mix 5 = .ok (.getfield 331, 3) := by decide +kernel
theorem d_Model_mix_8 : decode b_Model_mix 8 = .ok (.lmul, 1) := by decide +kernel
theorem d_Model_mix_9 : decode b_Model_mix 9 = .ok (.lload_n 1, 1) := by decide +kernel
theorem d_Model_mix_10 : decode b_Model_mix 10 = .ok (.ladd, 1) := by decide +kernel
theorem d_Model_mix_11 : decode b_Model_mix 11 = .ok (.putfield 331, 3) := by decide +kernel
theorem d_Model_mix_14 : decode b_Model_mix 14 = .ok (.return_, 1) := by decide +kernel
theorem d_Model_mixGraph_0 : decode b_Model_mixGraph 0 = .ok (.aload_n 0, 1) := by decide +kernel
theorem d_Model_mixGraph_1 : decode b_Model_mixGraph 1 = .ok (.aload_n 0, 1) := by decide +kernel
theorem d_Model_mixGraph_2 : decode b_Model_mixGraph 2 = .ok (.iload_n 1, 1) := by decide +kernel
theorem d_Model_mixGraph_3 : decode b_Model_mixGraph 3 = .ok (.invokevirtual 75, 3) := by decide +kernel
theorem d_Model_mixGraph_6 : decode b_Model_mixGraph 6 = .ok (.i2l, 1) := by decide +kernel
theorem d_Model_mixGraph_7 : decode b_Model_mixGraph 7 = .ok (.invokevirtual 335, 3) := by decide +kernel
theorem d_Model_mixGraph_10 : decode b_Model_mixGraph 10 = .ok (.iconst 0, 1) := by decide +kernel
theorem d_Model_mixGraph_11 : decode b_Model_mixGraph 11 = .ok (.istore_n 2, 1) := by decide +kernel
theorem d_Model_mixGraph_12 : decode b_Model_mixGraph 12 = .ok (.iload_n 2, 1) := by decide +kernel
theorem d_Model_mixGraph_13 : decode b_Model_mixGraph 13 = .ok (.aload_n 0, 1) := by decide +kernel
theorem d_Model_mixGraph_14 : decode b_Model_mixGraph 14 = .ok (.iload_n 1, 1) := by decide +kernel
theorem d_Model_mixGraph_15 : decode b_Model_mixGraph 15 = .ok (.invokevirtual 75, 3) := by decide +kernel
theorem d_Model_mixGraph_18 : decode b_Model_mixGraph 18 = .ok (.if_icmp .ge 20, 3) := by decide +kernel
theorem d_Model_mixGraph_21 : decode b_Model_mixGraph 21 = .ok (.aload_n 0, 1) := by decide +kernel
theorem d_Model_mixGraph_22 : decode b_Model_mixGraph 22 = .ok (.aload_n 0, 1) := by decide +kernel
theorem d_Model_mixGraph_23 : decode b_Model_mixGraph 23 = .ok (.iload_n 1, 1) := by decide +kernel
theorem d_Model_mixGraph_24 : decode b_Model_mixGraph 24 = .ok (.iload_n 2, 1) := by decide +kernel
theorem d_Model_mixGraph_25 : decode b_Model_mixGraph 25 = .ok (.invokevirtual 107, 3) := by decide +kernel
theorem d_Model_mixGraph_28 : decode b_Model_mixGraph 28 = .ok (.i2l, 1) := by decide +kernel
theorem d_Model_mixGraph_29 : decode b_Model_mixGraph 29 = .ok (.invokevirtual 335, 3) := by decide +kernel
theorem d_Model_mixGraph_32 : decode b_Model_mixGraph 32 = .ok (.iinc 2 1, 3) := by decide +kernel
theorem d_Model_mixGraph_35 : decode b_Model_mixGraph 35 = .ok (.goto (-23), 3) := by decide +kernel
theorem d_Model_mixGraph_38 : decode b_Model_mixGraph 38 = .ok (.iconst 0, 1) := by decide +kernel
theorem d_Model_mixGraph_39 : decode b_Model_mixGraph 39 = .ok (.istore_n 2, 1) := by decide +kernel
theorem d_Model_mixGraph_40 : decode b_Model_mixGraph 40 = .ok (.iload_n 2, 1) := by decide +kernel
theorem d_Model_mixGraph_41 : decode b_Model_mixGraph 41 = .ok (.aload_n 0, 1) := by decide +kernel
theorem d_Model_mixGraph_42 : decode b_Model_mixGraph 42 = .ok (.iload_n 1, 1) := by decide +kernel
theorem d_Model_mixGraph_43 : decode b_Model_mixGraph 43 = .ok (.invokevirtual 75, 3) := by decide +kernel
theorem d_Model_mixGraph_46 : decode b_Model_mixGraph 46 = .ok (.if_icmp .ge 38, 3) := by decide +kernel
theorem d_Model_mixGraph_49 : decode b_Model_mixGraph 49 = .ok (.iload_n 2, 1) := by decide +kernel
theorem d_Model_mixGraph_50 : decode b_Model_mixGraph 50 = .ok (.istore_n 3, 1) := by decide +kernel
theorem d_Model_mixGraph_51 : decode b_Model_mixGraph 51 = .ok (.iload_n 3, 1) := by decide +kernel
theorem d_Model_mixGraph_52 : decode b_Model_mixGraph 52 = .ok (.aload_n 0, 1) := by decide +kernel
theorem d_Model_mixGraph_53 : decode b_Model_mixGraph 53 = .ok (.iload_n 1, 1) := by decide +kernel
theorem d_Model_mixGraph_54 : decode b_Model_mixGraph 54 = .ok (.invokevirtual 75, 3) := by decide +kernel
theorem d_Model_mixGraph_57 : decode b_Model_mixGraph 57 = .ok (.if_icmp .ge 21, 3) := by decide +kernel
theorem d_Model_mixGraph_60 : decode b_Model_mixGraph 60 = .ok (.aload_n 0, 1) := by decide +kernel
theorem d_Model_mixGraph_61 : decode b_Model_mixGraph 61 = .ok (.aload_n 0, 1) := by decide +kernel
theorem d_Model_mixGraph_62 : decode b_Model_mixGraph 62 = .ok (.iload_n 1, 1) := by decide +kernel
theorem d_Model_mixGraph_63 : decode b_Model_mixGraph 63 = .ok (.iload_n 2, 1) := by decide +kernel
theorem d_Model_mixGraph_64 : decode b_Model_mixGraph 64 = .ok (.iload_n 3, 1) := by decide +kernel
theorem d_Model_mixGraph_65 : decode b_Model_mixGraph 65 = .ok (.invokevirtual 79, 3) := by decide +kernel
theorem d_Model_mixGraph_68 : decode b_Model_mixGraph 68 = .ok (.i2l, 1) := by decide +kernel
theorem d_Model_mixGraph_69 : decode b_Model_mixGraph 69 = .ok (.invokevirtual 335, 3) := by decide +kernel
theorem d_Model_mixGraph_72 : decode b_Model_mixGraph 72 = .ok (.iinc 3 1, 3) := by decide +kernel
theorem d_Model_mixGraph_75 : decode b_Model_mixGraph 75 = .ok (.goto (-24), 3) := by decide +kernel
theorem d_Model_mixGraph_78 : decode b_Model_mixGraph 78 = .ok (.iinc 2 1, 3) := by decide +kernel
theorem d_Model_mixGraph_81 : decode b_Model_mixGraph 81 = .ok (.goto (-41), 3) := by decide +kernel
theorem d_Model_mixGraph_84 : decode b_Model_mixGraph 84 = .ok (.aload_n 0, 1) := by decide +kernel
theorem d_Model_mixGraph_85 : decode b_Model_mixGraph 85 = .ok (.aload_n 0, 1) := by decide +kernel
theorem d_Model_mixGraph_86 : decode b_Model_mixGraph 86 = .ok (.iload_n 1, 1) := by decide +kernel
theorem d_Model_mixGraph_87 : decode b_Model_mixGraph 87 = .ok (.invokevirtual 199, 3) := by decide +kernel
theorem d_Model_mixGraph_90 : decode b_Model_mixGraph 90 = .ok (.i2l, 1) := by decide +kernel
theorem d_Model_mixGraph_91 : decode b_Model_mixGraph 91 = .ok (.invokevirtual 335, 3) := by decide +kernel
theorem d_Model_mixGraph_94 : decode b_Model_mixGraph 94 = .ok (.aload_n 0, 1) := by decide +kernel
theorem d_Model_mixGraph_95 : decode b_Model_mixGraph 95 = .ok (.aload_n 0, 1) := by decide +kernel
theorem d_Model_mixGraph_96 : decode b_Model_mixGraph 96 = .ok (.iload_n 1, 1) := by decide +kernel
theorem d_Model_mixGraph_97 : decode b_Model_mixGraph 97 = .ok (.iload_n 1, 1) := by decide +kernel
theorem d_Model_mixGraph_98 : decode b_Model_mixGraph 98 = .ok (.invokevirtual 250, 3) := by decide +kernel
theorem d_Model_mixGraph_101 : decode b_Model_mixGraph 101 = .ok (.i2l, 1) := by decide +kernel
theorem d_Model_mixGraph_102 : decode b_Model_mixGraph 102 = .ok (.invokevirtual 335, 3) := by decide +kernel
theorem d_Model_mixGraph_105 : decode b_Model_mixGraph 105 = .ok (.aload_n 0, 1) := by decide +kernel
theorem d_Model_mixGraph_106 : decode b_Model_mixGraph 106 = .ok (.aload_n 0, 1) := by decide +kernel
theorem d_Model_mixGraph_107 : decode b_Model_mixGraph 107 = .ok (.iload_n 1, 1) := by decide +kernel
theorem d_Model_mixGraph_108 : decode b_Model_mixGraph 108 = .ok (.invokevirtual 286, 3) := by decide +kernel
theorem d_Model_mixGraph_111 : decode b_Model_mixGraph 111 = .ok (.i2l, 1) := by decide +kernel
theorem d_Model_mixGraph_112 : decode b_Model_mixGraph 112 = .ok (.invokevirtual 335, 3) := by decide +kernel
theorem d_Model_mixGraph_115 : decode b_Model_mixGraph 115 = .ok (.return_, 1) := by decide +kernel
theorem d_Model_digest_0 : decode b_Model_digest 0 = .ok (.aload_n 0, 1) := by decide +kernel
theorem d_Model_digest_1 : decode b_Model_digest 1 = .ok (.iconst 0, 1) := by decide +kernel
theorem d_Model_digest_2 : decode b_Model_digest 2 = .ok (.putfield 63, 3) := by decide +kernel
theorem d_Model_digest_5 : decode b_Model_digest 5 = .ok (.aload_n 0, 1) := by decide +kernel
theorem d_Model_digest_6 : decode b_Model_digest 6 = .ok (.ldc2_w 339, 3) := by decide +kernel
theorem d_Model_digest_9 : decode b_Model_digest 9 = .ok (.putfield 331, 3) := by decide +kernel
theorem d_Model_digest_12 : decode b_Model_digest 12 = .ok (.aload_n 0, 1) := by decide +kernel
theorem d_Model_digest_13 : decode b_Model_digest 13 = .ok (.aload_n 0, 1) := by decide +kernel
theorem d_Model_digest_14 : decode b_Model_digest 14 = .ok (.getfield 289, 3) := by decide +kernel
theorem d_Model_digest_17 : decode b_Model_digest 17 = .ok (.i2l, 1) := by decide +kernel
theorem d_Model_digest_18 : decode b_Model_digest 18 = .ok (.invokevirtual 335, 3) := by decide +kernel
theorem d_Model_digest_21 : decode b_Model_digest 21 = .ok (.iconst 0, 1) := by decide +kernel
theorem d_Model_digest_22 : decode b_Model_digest 22 = .ok (.istore_n 1, 1) := by decide +kernel
theorem d_Model_digest_23 : decode b_Model_digest 23 = .ok (.iload_n 1, 1) := by decide +kernel
theorem d_Model_digest_24 : decode b_Model_digest 24 = .ok (.iconst 4, 1) := by decide +kernel
theorem d_Model_digest_25 : decode b_Model_digest 25 = .ok (.if_icmp .ge 14, 3) := by decide +kernel
theorem d_Model_digest_28 : decode b_Model_digest 28 = .ok (.aload_n 0, 1) := by decide +kernel
theorem d_Model_digest_29 : decode b_Model_digest 29 = .ok (.iload_n 1, 1) := by decide +kernel
theorem d_Model_digest_30 : decode b_Model_digest 30 = .ok (.invokevirtual 341, 3) := by decide +kernel
theorem d_Model_digest_33 : decode b_Model_digest 33 = .ok (.iinc 1 1, 3) := by decide +kernel
theorem d_Model_digest_36 : decode b_Model_digest 36 = .ok (.goto (-13), 3) := by decide +kernel
theorem d_Model_digest_39 : decode b_Model_digest 39 = .ok (.iconst 0, 1) := by decide +kernel
theorem d_Model_digest_40 : decode b_Model_digest 40 = .ok (.istore_n 1, 1) := by decide +kernel
theorem d_Model_digest_41 : decode b_Model_digest 41 = .ok (.iload_n 1, 1) := by decide +kernel
theorem d_Model_digest_42 : decode b_Model_digest 42 = .ok (.bipush 16, 2) := by decide +kernel
theorem d_Model_digest_44 : decode b_Model_digest 44 = .ok (.if_icmp .ge 24, 3) := by decide +kernel
theorem d_Model_digest_47 : decode b_Model_digest 47 = .ok (.aload_n 0, 1) := by decide +kernel
theorem d_Model_digest_48 : decode b_Model_digest 48 = .ok (.aload_n 0, 1) := by decide +kernel
theorem d_Model_digest_49 : decode b_Model_digest 49 = .ok (.iload_n 1, 1) := by decide +kernel
theorem d_Model_digest_50 : decode b_Model_digest 50 = .ok (.iconst 4, 1) := by decide +kernel
theorem d_Model_digest_51 : decode b_Model_digest 51 = .ok (.idiv, 1) := by decide +kernel
theorem d_Model_digest_52 : decode b_Model_digest 52 = .ok (.iload_n 1, 1) := by decide +kernel
theorem d_Model_digest_53 : decode b_Model_digest 53 = .ok (.iconst 4, 1) := by decide +kernel
theorem d_Model_digest_54 : decode b_Model_digest 54 = .ok (.irem, 1) := by decide +kernel
theorem d_Model_digest_55 : decode b_Model_digest 55 = .ok (.invokevirtual 256, 3) := by decide +kernel
theorem d_Model_digest_58 : decode b_Model_digest 58 = .ok (.i2l, 1) := by decide +kernel
theorem d_Model_digest_59 : decode b_Model_digest 59 = .ok (.invokevirtual 335, 3) := by decide +kernel
theorem d_Model_digest_62 : decode b_Model_digest 62 = .ok (.iinc 1 1, 3) := by decide +kernel
theorem d_Model_digest_65 : decode b_Model_digest 65 = .ok (.goto (-24), 3) := by decide +kernel
theorem d_Model_digest_68 : decode b_Model_digest 68 = .ok (.aload_n 0, 1) := by decide +kernel
theorem d_Model_digest_69 : decode b_Model_digest 69 = .ok (.aload_n 0, 1) := by decide +kernel
theorem d_Model_digest_70 : decode b_Model_digest 70 = .ok (.getfield 83, 3) := by decide +kernel
theorem d_Model_digest_73 : decode b_Model_digest 73 = .ok (.i2l, 1) := by decide +kernel
theorem d_Model_digest_74 : decode b_Model_digest 74 = .ok (.invokevirtual 335, 3) := by decide +kernel
theorem d_Model_digest_77 : decode b_Model_digest 77 = .ok (.aload_n 0, 1) := by decide +kernel
theorem d_Model_digest_78 : decode b_Model_digest 78 = .ok (.getfield 331, 3) := by decide +kernel
theorem d_Model_digest_81 : decode b_Model_digest 81 = .ok (.lreturn, 1) := by decide +kernel
def f_Model_clearText  (μ : HMem) : Option (Int32 × HMem) :=
  h_let (μ.1 125 4) (fun v1_4 =>
  h_let (h_wi μ 125 4 0) (fun μ_7 =>
  h_bd (f_Model_tells v1_4 μ_7) (fun r12 μ_12 =>
  some (r12, μ_12))))
def f_Model_here_J24   (s0 : Int32) (μ : HMem) : Option (Int32 × HMem) :=
some (s0, μ)
def f_Model_here  (μ : HMem) : Option (Int32 × HMem) :=
  if (μ.1 125 4) ≤ (μ.1 125 21) then
    f_Model_here_J24 (-1) μ
  else
    h_chk (μ.1 125 21) (h_len 128) (
    f_Model_here_J24 (μ.1 128 (Int32.toNatClampNeg (μ.1 125 21))) μ)
def f_Model_must_J41    (μ : HMem) : Option (Unit × HMem) :=
some ((), μ)
def f_Model_must_J25    (μ : HMem) : Option (Unit × HMem) :=
if ¬ (μ.1 125 22) = (-1 : Int32) then
  f_Model_must_J41 μ
else
  h_let (h_wi μ 125 22 (μ.1 125 21)) (fun μ_38 =>
  f_Model_must_J41 μ_38)
def f_Model_must (v1 : Int32) (μ : HMem) : Option (Unit × HMem) :=
  if ¬ (μ.1 125 22) = (-1 : Int32) then
    f_Model_must_J25 μ
  else
    if v1 = 0 then
      f_Model_must_J25 μ
    else
      h_let (h_wi μ 125 21 ((μ.1 125 21) + 1)) (fun μ_19 =>
      f_Model_must_J41 μ_19)
def f_Model_digit_J32   (s0 : Int32) (μ : HMem) : Option (Int32 × HMem) :=
some (s0, μ)
def f_Model_digit (v1 : Int32) (μ : HMem) : Option (Int32 × HMem) :=
  h_bd (f_Model_here  μ) (fun r1 μ_1 =>
  h_let (r1 - 48) (fun v2_7 =>
  h_bd (f_Model_in v2_7 0 v1 μ_1) (fun r12 μ_12 =>
  h_bd (f_Model_must r12 μ_12) (fun _ μ_15 =>
  h_bd (f_Model_in v2_7 0 v1 μ_15) (fun r21 μ_21 =>
  if r21 = 0 then
    f_Model_digit_J32 0 μ_21
  else
    f_Model_digit_J32 v2_7 μ_21)))))
def f_Model_signed_J57   (s0 : Int32) (μ : HMem) : Option (Int32 × HMem) :=
some (s0, μ)
def f_Model_signed_J37   (v1 : Int32) (v2 : Int32) (s0 : Int32) (s1 : Int32) (μ : HMem) : Option (Int32 × HMem) :=
h_let (h_wi μ 125 21 (s1 + s0)) (fun μ_38 =>
h_bd (f_Model_digit v1 μ_38) (fun r43 μ_43 =>
if v2 = 0 then
  f_Model_signed_J57 r43 μ_43
else
  f_Model_signed_J57 (-r43) μ_43))
def f_Model_signed_J22   (v1 : Int32) (s0 : Int32) (μ : HMem) : Option (Int32 × HMem) :=
if s0 = 0 then
  f_Model_signed_J37 v1 s0 0 (μ.1 125 21) μ
else
  f_Model_signed_J37 v1 s0 1 (μ.1 125 21) μ
def f_Model_signed_J21   (v1 : Int32) (μ : HMem) : Option (Int32 × HMem) :=
f_Model_signed_J22 v1 0 μ
def f_Model_signed (v1 : Int32) (μ : HMem) : Option (Int32 × HMem) :=
  if ¬ (μ.1 125 22) = (-1 : Int32) then
    f_Model_signed_J21 v1 μ
  else
    h_bd (f_Model_here  μ) (fun r9 μ_9 =>
    if ¬ r9 = (45 : Int32) then
      f_Model_signed_J21 v1 μ_9
    else
      f_Model_signed_J22 v1 1 μ_9)
def f_Model_readItem_J193    (μ : HMem) : Option (Unit × HMem) :=
some ((), μ)
def f_Model_readItem_J174   (v2 : Int32) (v3 : Int32) (s0 : Int32) (μ : HMem) : Option (Unit × HMem) :=
if ¬ (μ.1 125 22) = (-1 : Int32) then
  f_Model_readItem_J193 μ
else
  h_bd (f_Model_puts 4 v2 v3 s0 μ) (fun _ μ_190 =>
  f_Model_readItem_J193 μ_190)
def f_Model_readItem_J156   (v2 : Int32) (v3 : Int32) (v4 : Int32) (s0 : Int32) (s1 : Int32) (μ : HMem) : Option (Unit × HMem) :=
h_let (h_wi μ 125 21 (s1 + s0)) (fun μ_157 =>
if v4 = 0 then
  f_Model_readItem_J174 v2 v3 1 μ_157
else
  h_bd (f_Model_signed 2 μ_157) (fun r167 μ_167 =>
  f_Model_readItem_J174 v2 v3 r167 μ_167))
def f_Model_readItem_J139   (v2 : Int32) (v3 : Int32) (s0 : Int32) (μ : HMem) : Option (Unit × HMem) :=
if s0 = 0 then
  f_Model_readItem_J156 v2 v3 s0 0 (μ.1 125 21) μ
else
  f_Model_readItem_J156 v2 v3 s0 1 (μ.1 125 21) μ
def f_Model_readItem_J138   (v2 : Int32) (v3 : Int32) (μ : HMem) : Option (Unit × HMem) :=
f_Model_readItem_J139 v2 v3 0 μ
def f_Model_readItem_J105   (v1 : Int32) (μ : HMem) : Option (Unit × HMem) :=
h_bd (f_Model_digit v1 μ) (fun r107 μ_107 =>
h_bd (f_Model_digit v1 μ_107) (fun r113 μ_113 =>
if ¬ (μ_113.1 125 22) = (-1 : Int32) then
  f_Model_readItem_J138 r107 r113 μ_113
else
  h_bd (f_Model_here  μ_113) (fun r126 μ_126 =>
  if ¬ r126 = (61 : Int32) then
    f_Model_readItem_J138 r107 r113 μ_126
  else
    f_Model_readItem_J139 r107 r113 1 μ_126)))
def f_Model_readItem_J102    (μ : HMem) : Option (Unit × HMem) :=
f_Model_readItem_J193 μ
def f_Model_readItem_J74   (v2 : Int32) (s0 : Int32) (μ : HMem) : Option (Unit × HMem) :=
h_bd (f_Model_must s0 μ) (fun _ μ_74 =>
h_bd (f_Model_signed 3 μ_74) (fun r79 μ_79 =>
if ¬ (μ_79.1 125 22) = (-1 : Int32) then
  f_Model_readItem_J102 μ_79
else
  h_chk (293 + v2) (h_len 126) (h_let (h_wi μ_79 126 (Int32.toNatClampNeg (293 + v2)) r79) (fun μ_101 =>
  f_Model_readItem_J102 μ_101))))
def f_Model_readItem_J23   (v1 : Int32) (s0 : Int32) (μ : HMem) : Option (Unit × HMem) :=
h_bd (f_Model_must s0 μ) (fun _ μ_23 =>
h_bd (f_Model_here  μ_23) (fun r27 μ_27 =>
if ¬ r27 = (118 : Int32) then
  f_Model_readItem_J105 v1 μ_27
else
  if ¬ (μ_27.1 125 22) = (-1 : Int32) then
    f_Model_readItem_J105 v1 μ_27
  else
    h_let (h_wi μ_27 125 21 ((μ_27.1 125 21) + 1)) (fun μ_50 =>
    h_bd (f_Model_digit v1 μ_50) (fun r55 μ_55 =>
    h_bd (f_Model_here  μ_55) (fun r61 μ_61 =>
    if ¬ r61 = (61 : Int32) then
      f_Model_readItem_J74 r55 0 μ_61
    else
      f_Model_readItem_J74 r55 1 μ_61)))))
def f_Model_readItem  (μ : HMem) : Option (Unit × HMem) :=
  h_bd (f_Model_size 4 μ) (fun r2 μ_2 =>
  h_let (r2 - 1) (fun v1_7 =>
  h_bd (f_Model_here  μ_2) (fun r10 μ_10 =>
  if ¬ r10 = (59 : Int32) then
    f_Model_readItem_J23 v1_7 0 μ_10
  else
    f_Model_readItem_J23 v1_7 1 μ_10)))
def f_Model_parse_L36_b (K65 : Int32 → Int32 → HMem → Option (Int32 × HMem)) (rec_ : Int32 → Int32 → HMem → Option (Int32 × HMem)) (v1 : Int32) (v2 : Int32) (μ : HMem) : Option (Int32 × HMem) :=
if ¬ (μ.1 125 22) = (-1 : Int32) then
  K65 v1 v2 μ
else
  if (μ.1 125 4) ≤ (μ.1 125 21) then
    K65 v1 v2 μ
  else
    h_bd (f_Model_readItem  μ) (fun _ μ_56 =>
    h_let (v2 + 1) (fun v2_59 =>
    rec_ v1 v2_59 μ_56))
def f_Model_parse_L36 (K65 : Int32 → Int32 → HMem → Option (Int32 × HMem)) : Nat → Int32 → Int32 → HMem → Option (Int32 × HMem)
  | 0, _, _, _ => none
  | fuel + 1, v1, v2, μ => f_Model_parse_L36_b K65 (f_Model_parse_L36 K65 fuel) v1 v2 μ
def f_Model_parse_J65   (v1 : Int32) (v2 : Int32) (μ : HMem) : Option (Int32 × HMem) :=
if (μ.1 125 22) = (-1 : Int32) then
  h_bd (f_Model_keeps v1 μ) (fun _ μ_87 =>
  some (v2, μ_87))
else
  h_bd (f_Model_tells ((-10) - (μ.1 125 22)) μ) (fun r81 μ_81 =>
  some (r81, μ_81))
def f_Model_parse (v1 : Int32) (μ : HMem) : Option (Int32 × HMem) :=
  h_bd (f_Model_isGraph v1 μ) (fun r1 μ_1 =>
  if ¬ r1 = 0 then
    h_let (h_wi μ_1 125 21 0) (fun μ_15 =>
    h_let (h_wi μ_15 125 22 (-1)) (fun μ_20 =>
    h_bd (f_Model_digit 8 μ_20) (fun r28 μ_28 =>
    h_bd (f_Model_begins 4 r28 μ_28) (fun _ μ_31 =>
    f_Model_parse_L36 f_Model_parse_J65 h_fuel v1 0 μ_31))))
  else
    h_bd (f_Model_fails 1 μ_1) (fun r9 μ_9 =>
    some (r9, μ_9)))
def f_Model_writes (v1 : Int32) (μ : HMem) : Option (Unit × HMem) :=
  h_chk (μ.1 125 24) (h_len 142) (h_let (h_wi μ 142 (Int32.toNatClampNeg (μ.1 125 24)) v1) (fun μ_9 =>
  h_let (h_wi μ_9 125 24 ((μ_9.1 125 24) + 1)) (fun μ_17 =>
  some ((), μ_17))))
def f_Model_writesWeight_J29   (s0 : Int32) (s1 : Int32) (μ : HMem) : Option (Unit × HMem) :=
h_bd (f_Model_writes (s1 + s0) μ) (fun _ μ_30 =>
some ((), μ_30))
def f_Model_writesWeight_J16   (v1 : Int32) (μ : HMem) : Option (Unit × HMem) :=
if 0 ≤ v1 then
  f_Model_writesWeight_J29 v1 48 μ
else
  f_Model_writesWeight_J29 (-v1) 48 μ
def f_Model_writesWeight (v1 : Int32) (μ : HMem) : Option (Unit × HMem) :=
  h_bd (f_Model_writes 61 μ) (fun _ μ_3 =>
  if 0 ≤ v1 then
    f_Model_writesWeight_J16 v1 μ_3
  else
    h_bd (f_Model_writes 45 μ_3) (fun _ μ_13 =>
    f_Model_writesWeight_J16 v1 μ_13))
def f_Model_writesEdge_J36    (μ : HMem) : Option (Unit × HMem) :=
some ((), μ)
def f_Model_writesEdge (v1 : Int32) (v2 : Int32) (v3 : Int32) (μ : HMem) : Option (Unit × HMem) :=
  if v3 = 0 then
    f_Model_writesEdge_J36 μ
  else
    h_bd (f_Model_writes 59 μ) (fun _ μ_7 =>
    h_bd (f_Model_writes (48 + v1) μ_7) (fun _ μ_15 =>
    h_bd (f_Model_writes (48 + v2) μ_15) (fun _ μ_23 =>
    if v3 = (1 : Int32) then
      f_Model_writesEdge_J36 μ_23
    else
      h_bd (f_Model_writesWeight v3 μ_23) (fun _ μ_33 =>
      f_Model_writesEdge_J36 μ_33))))
def f_Model_writesGraph_J68  (rec_ : Int32 → Int32 → HMem → Option (Unit × HMem)) (v1 : Int32) (v2 : Int32) (μ : HMem) : Option (Unit × HMem) :=
h_let (v2 + 1) (fun v2_68 =>
rec_ v1 v2_68 μ)
def f_Model_writesGraph_L19_b (K74 : Int32 → HMem → Option (Unit × HMem)) (rec_ : Int32 → Int32 → HMem → Option (Unit × HMem)) (v1 : Int32) (v2 : Int32) (μ : HMem) : Option (Unit × HMem) :=
h_bd (f_Model_size v1 μ) (fun r22 μ_22 =>
if r22 ≤ v2 then
  K74 v1 μ_22
else
  h_bd (f_Model_weight v1 v2 μ_22) (fun r31 μ_31 =>
  if r31 = (1 : Int32) then
    f_Model_writesGraph_J68 rec_ v1 v2 μ_31
  else
    h_bd (f_Model_writes 59 μ_31) (fun _ μ_41 =>
    h_bd (f_Model_writes 118 μ_41) (fun _ μ_47 =>
    h_bd (f_Model_writes (48 + v2) μ_47) (fun _ μ_55 =>
    h_bd (f_Model_weight v1 v2 μ_55) (fun r62 μ_62 =>
    h_bd (f_Model_writesWeight r62 μ_62) (fun _ μ_65 =>
    f_Model_writesGraph_J68 rec_ v1 v2 μ_65)))))))
def f_Model_writesGraph_L19 (K74 : Int32 → HMem → Option (Unit × HMem)) : Nat → Int32 → Int32 → HMem → Option (Unit × HMem)
  | 0, _, _, _ => none
  | fuel + 1, v1, v2, μ => f_Model_writesGraph_L19_b K74 (f_Model_writesGraph_L19 K74 fuel) v1 v2 μ
def f_Model_writesGraph_L87_b (K115 : Int32 → Int32 → HMem → Option (Unit × HMem)) (rec_ : Int32 → Int32 → Int32 → HMem → Option (Unit × HMem)) (v1 : Int32) (v2 : Int32) (v3 : Int32) (μ : HMem) : Option (Unit × HMem) :=
h_bd (f_Model_size v1 μ) (fun r90 μ_90 =>
if r90 ≤ v3 then
  K115 v1 v2 μ_90
else
  h_bd (f_Model_between v1 v2 v3 μ_90) (fun r103 μ_103 =>
  h_bd (f_Model_writesEdge v2 v3 r103 μ_103) (fun _ μ_106 =>
  h_let (v3 + 1) (fun v3_109 =>
  rec_ v1 v2 v3_109 μ_106))))
def f_Model_writesGraph_L87 (K115 : Int32 → Int32 → HMem → Option (Unit × HMem)) : Nat → Int32 → Int32 → Int32 → HMem → Option (Unit × HMem)
  | 0, _, _, _, _ => none
  | fuel + 1, v1, v2, v3, μ => f_Model_writesGraph_L87_b K115 (f_Model_writesGraph_L87 K115 fuel) v1 v2 v3 μ
def f_Model_writesGraph_J115  (rec_ : Int32 → Int32 → HMem → Option (Unit × HMem)) (v1 : Int32) (v2 : Int32) (μ : HMem) : Option (Unit × HMem) :=
h_let (v2 + 1) (fun v2_115 =>
rec_ v1 v2_115 μ)
def f_Model_writesGraph_L76_b  (rec_ : Int32 → Int32 → HMem → Option (Unit × HMem)) (v1 : Int32) (v2 : Int32) (μ : HMem) : Option (Unit × HMem) :=
h_bd (f_Model_size v1 μ) (fun r79 μ_79 =>
if r79 ≤ v2 then
  some ((), μ_79)
else
  f_Model_writesGraph_L87 (f_Model_writesGraph_J115 rec_) h_fuel v1 v2 v2 μ_79)
def f_Model_writesGraph_L76  : Nat → Int32 → Int32 → HMem → Option (Unit × HMem)
  | 0, _, _, _ => none
  | fuel + 1, v1, v2, μ => f_Model_writesGraph_L76_b  (f_Model_writesGraph_L76  fuel) v1 v2 μ
def f_Model_writesGraph_J74   (v1 : Int32) (μ : HMem) : Option (Unit × HMem) :=
f_Model_writesGraph_L76 h_fuel v1 0 μ
def f_Model_writesGraph (v1 : Int32) (μ : HMem) : Option (Unit × HMem) :=
  h_let (h_wi μ 125 24 0) (fun μ_2 =>
  h_bd (f_Model_size v1 μ_2) (fun r10 μ_10 =>
  h_bd (f_Model_writes (48 + r10) μ_10) (fun _ μ_14 =>
  f_Model_writesGraph_L19 f_Model_writesGraph_J74 h_fuel v1 0 μ_14)))
def f_Model_written_J47   (s0 : Int32) (μ : HMem) : Option (Int32 × HMem) :=
h_bd (f_Model_tells s0 μ) (fun r47 μ_47 =>
some (r47, μ_47))
def f_Model_written (v1 : Int32) (v2 : Int32) (μ : HMem) : Option (Int32 × HMem) :=
  h_bd (f_Model_isGraph v1 μ) (fun r1 μ_1 =>
  if ¬ r1 = 0 then
    if 0 ≤ v2 then
      h_bd (f_Model_writesGraph v1 μ_1) (fun _ μ_25 =>
      if (μ_25.1 125 24) ≤ v2 then
        f_Model_written_J47 (-1) μ_25
      else
        h_chk v2 (h_len 142) (
        f_Model_written_J47 (μ_25.1 142 (Int32.toNatClampNeg (v2))) μ_25))
    else
      h_bd (f_Model_fails 2 μ_1) (fun r19 μ_19 =>
      some (r19, μ_19))
  else
    h_bd (f_Model_fails 1 μ_1) (fun r9 μ_9 =>
    some (r9, μ_9)))
def f_Model_undo_L25_b (K59 : HMem → Option (Int32 × HMem)) (rec_ : Int32 → HMem → Option (Int32 × HMem)) (v1 : Int32) (μ : HMem) : Option (Int32 × HMem) :=
if (292 : Int32) ≤ v1 then
  K59 μ
else
  h_chk ((292 * (μ.1 125 2)) + v1) (h_len 127) (
  h_chk v1 (h_len 126) (h_let (h_wi μ 126 (Int32.toNatClampNeg (v1)) (μ.1 127 (Int32.toNatClampNeg ((292 * (μ.1 125 2)) + v1)))) (fun μ_52 =>
  h_let (v1 + 1) (fun v1_53 =>
  rec_ v1_53 μ_52))))
def f_Model_undo_L25 (K59 : HMem → Option (Int32 × HMem)) : Nat → Int32 → HMem → Option (Int32 × HMem)
  | 0, _, _ => none
  | fuel + 1, v1, μ => f_Model_undo_L25_b K59 (f_Model_undo_L25 K59 fuel) v1 μ
def f_Model_undo_J59    (μ : HMem) : Option (Int32 × HMem) :=
h_bd (f_Model_tells (μ.1 125 2) μ) (fun r64 μ_64 =>
some (r64, μ_64))
def f_Model_undo  (μ : HMem) : Option (Int32 × HMem) :=
  if ¬ (μ.1 125 2) = 0 then
    h_let (h_wi μ 125 2 ((μ.1 125 2) - 1)) (fun μ_20 =>
    f_Model_undo_L25 f_Model_undo_J59 h_fuel 0 μ_20)
  else
    h_bd (f_Model_fails 1 μ) (fun r9 μ_9 =>
    some (r9, μ_9))
def f_Model_mix (v1 : Int64) (μ : HMem) : Option (Unit × HMem) :=
  h_let (h_wl μ 125 25 ((31 * (μ.2 125 25)) + v1)) (fun μ_11 =>
  some ((), μ_11))
def f_Model_mixGraph_L12_b (K38 : Int32 → HMem → Option (Unit × HMem)) (rec_ : Int32 → Int32 → HMem → Option (Unit × HMem)) (v1 : Int32) (v2 : Int32) (μ : HMem) : Option (Unit × HMem) :=
h_bd (f_Model_size v1 μ) (fun r15 μ_15 =>
if r15 ≤ v2 then
  K38 v1 μ_15
else
  h_bd (f_Model_weight v1 v2 μ_15) (fun r25 μ_25 =>
  h_bd (f_Model_mix (Int32.toInt64 r25) μ_25) (fun _ μ_29 =>
  h_let (v2 + 1) (fun v2_32 =>
  rec_ v1 v2_32 μ_29))))
def f_Model_mixGraph_L12 (K38 : Int32 → HMem → Option (Unit × HMem)) : Nat → Int32 → Int32 → HMem → Option (Unit × HMem)
  | 0, _, _, _ => none
  | fuel + 1, v1, v2, μ => f_Model_mixGraph_L12_b K38 (f_Model_mixGraph_L12 K38 fuel) v1 v2 μ
def f_Model_mixGraph_L51_b (K78 : Int32 → Int32 → HMem → Option (Unit × HMem)) (rec_ : Int32 → Int32 → Int32 → HMem → Option (Unit × HMem)) (v1 : Int32) (v2 : Int32) (v3 : Int32) (μ : HMem) : Option (Unit × HMem) :=
h_bd (f_Model_size v1 μ) (fun r54 μ_54 =>
if r54 ≤ v3 then
  K78 v1 v2 μ_54
else
  h_bd (f_Model_between v1 v2 v3 μ_54) (fun r65 μ_65 =>
  h_bd (f_Model_mix (Int32.toInt64 r65) μ_65) (fun _ μ_69 =>
  h_let (v3 + 1) (fun v3_72 =>
  rec_ v1 v2 v3_72 μ_69))))
def f_Model_mixGraph_L51 (K78 : Int32 → Int32 → HMem → Option (Unit × HMem)) : Nat → Int32 → Int32 → Int32 → HMem → Option (Unit × HMem)
  | 0, _, _, _, _ => none
  | fuel + 1, v1, v2, v3, μ => f_Model_mixGraph_L51_b K78 (f_Model_mixGraph_L51 K78 fuel) v1 v2 v3 μ
def f_Model_mixGraph_J78  (rec_ : Int32 → Int32 → HMem → Option (Unit × HMem)) (v1 : Int32) (v2 : Int32) (μ : HMem) : Option (Unit × HMem) :=
h_let (v2 + 1) (fun v2_78 =>
rec_ v1 v2_78 μ)
def f_Model_mixGraph_L40_b (K84 : Int32 → HMem → Option (Unit × HMem)) (rec_ : Int32 → Int32 → HMem → Option (Unit × HMem)) (v1 : Int32) (v2 : Int32) (μ : HMem) : Option (Unit × HMem) :=
h_bd (f_Model_size v1 μ) (fun r43 μ_43 =>
if r43 ≤ v2 then
  K84 v1 μ_43
else
  f_Model_mixGraph_L51 (f_Model_mixGraph_J78 rec_) h_fuel v1 v2 v2 μ_43)
def f_Model_mixGraph_L40 (K84 : Int32 → HMem → Option (Unit × HMem)) : Nat → Int32 → Int32 → HMem → Option (Unit × HMem)
  | 0, _, _, _ => none
  | fuel + 1, v1, v2, μ => f_Model_mixGraph_L40_b K84 (f_Model_mixGraph_L40 K84 fuel) v1 v2 μ
def f_Model_mixGraph_J84   (v1 : Int32) (μ : HMem) : Option (Unit × HMem) :=
h_bd (f_Model_treewidthOf v1 μ) (fun r87 μ_87 =>
h_bd (f_Model_mix (Int32.toInt64 r87) μ_87) (fun _ μ_91 =>
h_bd (f_Model_bijectionsOf v1 v1 μ_91) (fun r98 μ_98 =>
h_bd (f_Model_mix (Int32.toInt64 r98) μ_98) (fun _ μ_102 =>
h_bd (f_Model_coreOf v1 μ_102) (fun r108 μ_108 =>
h_bd (f_Model_mix (Int32.toInt64 r108) μ_108) (fun _ μ_112 =>
some ((), μ_112)))))))
def f_Model_mixGraph_J38   (v1 : Int32) (μ : HMem) : Option (Unit × HMem) :=
f_Model_mixGraph_L40 f_Model_mixGraph_J84 h_fuel v1 0 μ
def f_Model_mixGraph (v1 : Int32) (μ : HMem) : Option (Unit × HMem) :=
  h_bd (f_Model_size v1 μ) (fun r3 μ_3 =>
  h_bd (f_Model_mix (Int32.toInt64 r3) μ_3) (fun _ μ_7 =>
  f_Model_mixGraph_L12 f_Model_mixGraph_J38 h_fuel v1 0 μ_7))
def f_Model_digest_L23_b (K39 : HMem → Option (Int64 × HMem)) (rec_ : Int32 → HMem → Option (Int64 × HMem)) (v1 : Int32) (μ : HMem) : Option (Int64 × HMem) :=
if (4 : Int32) ≤ v1 then
  K39 μ
else
  h_bd (f_Model_mixGraph v1 μ) (fun _ μ_30 =>
  h_let (v1 + 1) (fun v1_33 =>
  rec_ v1_33 μ_30))
def f_Model_digest_L23 (K39 : HMem → Option (Int64 × HMem)) : Nat → Int32 → HMem → Option (Int64 × HMem)
  | 0, _, _ => none
  | fuel + 1, v1, μ => f_Model_digest_L23_b K39 (f_Model_digest_L23 K39 fuel) v1 μ
def f_Model_digest_L41_b (K68 : HMem → Option (Int64 × HMem)) (rec_ : Int32 → HMem → Option (Int64 × HMem)) (v1 : Int32) (μ : HMem) : Option (Int64 × HMem) :=
if (16 : Int32) ≤ v1 then
  K68 μ
else
  if (4 : Int32) = 0 then none else
  if (4 : Int32) = 0 then none else
  h_bd (f_Model_compared (v1 / 4) (h_irem v1 4) μ) (fun r55 μ_55 =>
  h_bd (f_Model_mix (Int32.toInt64 r55) μ_55) (fun _ μ_59 =>
  h_let (v1 + 1) (fun v1_62 =>
  rec_ v1_62 μ_59)))
def f_Model_digest_L41 (K68 : HMem → Option (Int64 × HMem)) : Nat → Int32 → HMem → Option (Int64 × HMem)
  | 0, _, _ => none
  | fuel + 1, v1, μ => f_Model_digest_L41_b K68 (f_Model_digest_L41 K68 fuel) v1 μ
def f_Model_digest_J68    (μ : HMem) : Option (Int64 × HMem) :=
h_bd (f_Model_mix (Int32.toInt64 (μ.1 125 2)) μ) (fun _ μ_74 =>
some ((μ_74.2 125 25), μ_74))
def f_Model_digest_J39    (μ : HMem) : Option (Int64 × HMem) :=
f_Model_digest_L41 f_Model_digest_J68 h_fuel 0 μ
def f_Model_digest  (μ : HMem) : Option (Int64 × HMem) :=
  h_let (h_wi μ 125 5 0) (fun μ_2 =>
  h_let (h_wl μ_2 125 25 2879) (fun μ_9 =>
  h_bd (f_Model_mix (Int32.toInt64 (μ_9.1 125 4)) μ_9) (fun _ μ_18 =>
  f_Model_digest_L23 f_Model_digest_J39 h_fuel 0 μ_18)))
def p_Model_parse_65 (cx : HCx) (F_ : Int32 → Int32 → HMem → Option (Int32 × HMem)) : Prop := ∀ (v1 : Int32) (v2 : Int32) (μ : HMem), HX cx (HQ cx h_eI) (F_ v1 v2 μ) 0 0 65 [(0, .ref 125), (1, .int v1), (2, .int v2)] [] μ
def p_Model_parse_36 (cx : HCx) (F_ : Int32 → Int32 → HMem → Option (Int32 × HMem)) : Prop := ∀ (v1 : Int32) (v2 : Int32) (μ : HMem), HX cx (HQ cx h_eI) (F_ v1 v2 μ) 0 0 36 [(0, .ref 125), (1, .int v1), (2, .int v2)] [] μ
def p_Model_writesGraph_19 (cx : HCx) (F_ : Int32 → Int32 → HMem → Option (Unit × HMem)) : Prop := ∀ (v1 : Int32) (v2 : Int32) (μ : HMem), HX cx (HQ cx h_eV) (F_ v1 v2 μ) 0 0 19 [(0, .ref 125), (1, .int v1), (2, .int v2)] [] μ
def p_Model_writesGraph_74 (cx : HCx) (F_ : Int32 → HMem → Option (Unit × HMem)) : Prop := ∀ (v1 : Int32) (μ : HMem), HX cx (HQ cx h_eV) (F_ v1 μ) 0 0 74 [(0, .ref 125), (1, .int v1)] [] μ
def p_Model_writesGraph_115 (cx : HCx) (F_ : Int32 → Int32 → HMem → Option (Unit × HMem)) : Prop := ∀ (v1 : Int32) (v2 : Int32) (μ : HMem), HX cx (HQ cx h_eV) (F_ v1 v2 μ) 0 0 115 [(0, .ref 125), (1, .int v1), (2, .int v2)] [] μ
def p_Model_writesGraph_87 (cx : HCx) (F_ : Int32 → Int32 → Int32 → HMem → Option (Unit × HMem)) : Prop := ∀ (v1 : Int32) (v2 : Int32) (v3 : Int32) (μ : HMem), HX cx (HQ cx h_eV) (F_ v1 v2 v3 μ) 0 0 87 [(0, .ref 125), (1, .int v1), (2, .int v2), (3, .int v3)] [] μ
def p_Model_writesGraph_76 (cx : HCx) (F_ : Int32 → Int32 → HMem → Option (Unit × HMem)) : Prop := ∀ (v1 : Int32) (v2 : Int32) (μ : HMem), HX cx (HQ cx h_eV) (F_ v1 v2 μ) 0 0 76 [(0, .ref 125), (1, .int v1), (2, .int v2)] [] μ
def p_Model_undo_59 (cx : HCx) (F_ : HMem → Option (Int32 × HMem)) : Prop := ∀  (μ : HMem), HX cx (HQ cx h_eI) (F_ μ) 0 0 59 [(0, .ref 125)] [] μ
def p_Model_undo_25 (cx : HCx) (F_ : Int32 → HMem → Option (Int32 × HMem)) : Prop := ∀ (v1 : Int32) (μ : HMem), HX cx (HQ cx h_eI) (F_ v1 μ) 0 0 25 [(0, .ref 125), (1, .int v1)] [] μ
def p_Model_mixGraph_38 (cx : HCx) (F_ : Int32 → HMem → Option (Unit × HMem)) : Prop := ∀ (v1 : Int32) (μ : HMem), HX cx (HQ cx h_eV) (F_ v1 μ) 0 0 38 [(0, .ref 125), (1, .int v1)] [] μ
def p_Model_mixGraph_12 (cx : HCx) (F_ : Int32 → Int32 → HMem → Option (Unit × HMem)) : Prop := ∀ (v1 : Int32) (v2 : Int32) (μ : HMem), HX cx (HQ cx h_eV) (F_ v1 v2 μ) 0 0 12 [(0, .ref 125), (1, .int v1), (2, .int v2)] [] μ
def p_Model_mixGraph_78 (cx : HCx) (F_ : Int32 → Int32 → HMem → Option (Unit × HMem)) : Prop := ∀ (v1 : Int32) (v2 : Int32) (μ : HMem), HX cx (HQ cx h_eV) (F_ v1 v2 μ) 0 0 78 [(0, .ref 125), (1, .int v1), (2, .int v2)] [] μ
def p_Model_mixGraph_51 (cx : HCx) (F_ : Int32 → Int32 → Int32 → HMem → Option (Unit × HMem)) : Prop := ∀ (v1 : Int32) (v2 : Int32) (v3 : Int32) (μ : HMem), HX cx (HQ cx h_eV) (F_ v1 v2 v3 μ) 0 0 51 [(0, .ref 125), (1, .int v1), (2, .int v2), (3, .int v3)] [] μ
def p_Model_mixGraph_40 (cx : HCx) (F_ : Int32 → Int32 → HMem → Option (Unit × HMem)) : Prop := ∀ (v1 : Int32) (v2 : Int32) (μ : HMem), HX cx (HQ cx h_eV) (F_ v1 v2 μ) 0 0 40 [(0, .ref 125), (1, .int v1), (2, .int v2)] [] μ
def p_Model_mixGraph_84 (cx : HCx) (F_ : Int32 → HMem → Option (Unit × HMem)) : Prop := ∀ (v1 : Int32) (μ : HMem), HX cx (HQ cx h_eV) (F_ v1 μ) 0 0 84 [(0, .ref 125), (1, .int v1)] [] μ
def p_Model_digest_39 (cx : HCx) (F_ : HMem → Option (Int64 × HMem)) : Prop := ∀  (μ : HMem), HX cx (HQ cx h_eJ) (F_ μ) 0 0 39 [(0, .ref 125)] [] μ
def p_Model_digest_23 (cx : HCx) (F_ : Int32 → HMem → Option (Int64 × HMem)) : Prop := ∀ (v1 : Int32) (μ : HMem), HX cx (HQ cx h_eJ) (F_ v1 μ) 0 0 23 [(0, .ref 125), (1, .int v1)] [] μ
def p_Model_digest_68 (cx : HCx) (F_ : HMem → Option (Int64 × HMem)) : Prop := ∀  (μ : HMem), HX cx (HQ cx h_eJ) (F_ μ) 0 0 68 [(0, .ref 125)] [] μ
def p_Model_digest_41 (cx : HCx) (F_ : Int32 → HMem → Option (Int64 × HMem)) : Prop := ∀ (v1 : Int32) (μ : HMem), HX cx (HQ cx h_eJ) (F_ v1 μ) 0 0 41 [(0, .ref 125), (1, .int v1)] [] μ
theorem t_Model_clearText_0 {cx : HCx} (hg : HGood cx R_Model b_Model_clearText 2 2 (some .int)) (hA : h_own cx)  (μ : HMem) : HX cx (HQ cx h_eI) (f_Model_clearText μ) 0 0 0 [(0, .ref 125)] [] μ := by
  unfold f_Model_clearText
  refine r_aload_n hg 0 d_Model_clearText_0 rfl rfl ?_
  refine r_get (v := .int (μ.1 125 4)) hg c_Model (by decide) rfl (Nat.le_of_ble_eq_true rfl) rfl wf_Model_289 d_Model_clearText_1 rfl ?_
  refine r_letI (fun v1_4 => ?_)
  refine r_istore_n (l' := [(1, .int v1_4), (0, .ref 125)]) hg d_Model_clearText_4 rfl (Nat.le_of_ble_eq_true rfl) rfl ?_
  refine r_aload_n hg 1 d_Model_clearText_5 rfl rfl ?_
  refine r_iconst (v := 0) hg d_Model_clearText_6 (by decide) ?_
  refine r_put hg c_Model t_Model_ok n_Model (by decide) rfl (Nat.le_of_ble_eq_true rfl) rfl rfl (by decide +kernel) wf_Model_289 d_Model_clearText_7 ?_
  refine r_letM (fun μ_7 => ?_)
  refine r_aload_n hg 1 d_Model_clearText_10 rfl rfl ?_
  refine r_iload_n hg 0 d_Model_clearText_11 rfl rfl ?_
  refine r_callV (As := [.int v1_4]) hg (t_Model_tells v1_4 μ_7) v_Model_tells c_Model rfl (by decide) rfl wm_Model_171 d_Model_clearText_12 rfl ⟨by decide, by decide⟩ (Nat.le_of_ble_eq_true rfl) rfl (fun r12 μ_12 _ => ?_)
  exact r_iret hg hA rfl d_Model_clearText_15 rfl
theorem t_Model_clearText  (μ : HMem) : HSpec y_Model_clearText b_Model_clearText 2 (some .int) 2 h_eI [.ref 125] μ (f_Model_clearText μ) :=
  HSpec.of (by decide +kernel) (v_Model_clearText.1 _ (by simp)) (Nat.le_of_ble_eq_true rfl) (fun cx hA hg => t_Model_clearText_0 hg hA  μ)
theorem t_Model_here_J24 {cx : HCx} (hg : HGood cx R_Model b_Model_here 1 1 (some .int)) (hA : h_own cx)   (s0 : Int32) (μ : HMem) : HX cx (HQ cx h_eI) (f_Model_here_J24   s0 μ) 0 0 24 [] [.int s0] μ := by
  unfold f_Model_here_J24
  exact r_iret hg hA rfl d_Model_here_24 rfl
theorem t_Model_here_0 {cx : HCx} (hg : HGood cx R_Model b_Model_here 1 1 (some .int)) (hA : h_own cx)  (μ : HMem) : HX cx (HQ cx h_eI) (f_Model_here μ) 0 0 0 [(0, .ref 125)] [] μ := by
  unfold f_Model_here
  refine r_aload_n hg 0 d_Model_here_0 rfl rfl ?_
  refine r_get (v := .int (μ.1 125 21)) hg c_Model (by decide) rfl (Nat.le_of_ble_eq_true rfl) rfl wf_Model_292 d_Model_here_1 rfl ?_
  refine r_aload_n hg 0 d_Model_here_4 rfl rfl ?_
  refine r_get (v := .int (μ.1 125 4)) hg c_Model (by decide) rfl (Nat.le_of_ble_eq_true rfl) rfl wf_Model_289 d_Model_here_5 rfl ?_
  refine r_icmp_ge (tgt := 23) hg d_Model_here_8 (by decide) ?_ ?_
  · refine r_iconst (v := -1) hg d_Model_here_23 (by decide) ?_
    refine r_sub [] rfl ?_
    exact t_Model_here_J24 hg hA (-1) μ
  · refine r_aload_n hg 0 d_Model_here_11 rfl rfl ?_
    refine r_get (v := .ref 128) hg c_Model (by decide) rfl (Nat.le_of_ble_eq_true rfl) rfl wf_Model_16 d_Model_here_12 rfl ?_
    refine r_aload_n hg 0 d_Model_here_15 rfl rfl ?_
    refine r_get (v := .int (μ.1 125 21)) hg c_Model (by decide) rfl (Nat.le_of_ble_eq_true rfl) rfl wf_Model_292 d_Model_here_16 rfl ?_
    refine r_iald hg (by decide) rfl d_Model_here_19 ?_
    refine r_goto (tgt := 24) hg d_Model_here_20 (by decide) ?_
    refine r_sub [] rfl ?_
    exact t_Model_here_J24 hg hA (μ.1 128 (Int32.toNatClampNeg (μ.1 125 21))) μ
theorem t_Model_here  (μ : HMem) : HSpec y_Model_here b_Model_here 1 (some .int) 1 h_eI [.ref 125] μ (f_Model_here μ) :=
  HSpec.of (by decide +kernel) (v_Model_here.1 _ (by simp)) (Nat.le_of_ble_eq_true rfl) (fun cx hA hg => t_Model_here_0 hg hA  μ)
theorem t_Model_must_J41 {cx : HCx} (hg : HGood cx R_Model b_Model_must 2 1 none) (hA : h_own cx)    (μ : HMem) : HX cx (HQ cx h_eV) (f_Model_must_J41   μ) 0 0 41 [] [] μ := by
  unfold f_Model_must_J41
  exact r_vret hg hA rfl d_Model_must_41 rfl
theorem t_Model_must_J25 {cx : HCx} (hg : HGood cx R_Model b_Model_must 2 1 none) (hA : h_own cx)    (μ : HMem) : HX cx (HQ cx h_eV) (f_Model_must_J25   μ) 0 0 25 [(0, .ref 125)] [] μ := by
  unfold f_Model_must_J25
  refine r_aload_n hg 0 d_Model_must_25 rfl rfl ?_
  refine r_get (v := .int (μ.1 125 22)) hg c_Model (by decide) rfl (Nat.le_of_ble_eq_true rfl) rfl wf_Model_295 d_Model_must_26 rfl ?_
  refine r_iconst (v := -1) hg d_Model_must_29 (by decide) ?_
  refine r_icmp_ne (tgt := 41) hg d_Model_must_30 (by decide) ?_ ?_
  · refine r_sub [] rfl ?_
    exact t_Model_must_J41 hg hA μ
  · refine r_aload_n hg 0 d_Model_must_33 rfl rfl ?_
    refine r_aload_n hg 0 d_Model_must_34 rfl rfl ?_
    refine r_get (v := .int (μ.1 125 21)) hg c_Model (by decide) rfl (Nat.le_of_ble_eq_true rfl) rfl wf_Model_292 d_Model_must_35 rfl ?_
    refine r_put hg c_Model t_Model_ok n_Model (by decide) rfl (Nat.le_of_ble_eq_true rfl) rfl rfl (by decide +kernel) wf_Model_295 d_Model_must_38 ?_
    refine r_letM (fun μ_38 => ?_)
    refine r_sub [] rfl ?_
    exact t_Model_must_J41 hg hA μ_38
theorem t_Model_must_0 {cx : HCx} (hg : HGood cx R_Model b_Model_must 2 1 none) (hA : h_own cx) (v1 : Int32) (μ : HMem) : HX cx (HQ cx h_eV) (f_Model_must v1 μ) 0 0 0 [(0, .ref 125), (1, .int v1)] [] μ := by
  unfold f_Model_must
  refine r_aload_n hg 0 d_Model_must_0 rfl rfl ?_
  refine r_get (v := .int (μ.1 125 22)) hg c_Model (by decide) rfl (Nat.le_of_ble_eq_true rfl) rfl wf_Model_295 d_Model_must_1 rfl ?_
  refine r_iconst (v := -1) hg d_Model_must_4 (by decide) ?_
  refine r_icmp_ne (tgt := 25) hg d_Model_must_5 (by decide) ?_ ?_
  · refine r_sub [0] rfl ?_
    exact t_Model_must_J25 hg hA μ
  · refine r_iload_n hg 1 d_Model_must_8 rfl rfl ?_
    refine r_if_eq (tgt := 25) hg d_Model_must_9 (by decide) ?_ ?_
    · refine r_sub [0] rfl ?_
      exact t_Model_must_J25 hg hA μ
    · refine r_aload_n hg 0 d_Model_must_12 rfl rfl ?_
      refine r_dup hg d_Model_must_13 rfl ?_
      refine r_get (v := .int (μ.1 125 21)) hg c_Model (by decide) rfl (Nat.le_of_ble_eq_true rfl) rfl wf_Model_292 d_Model_must_14 rfl ?_
      refine r_iconst (v := 1) hg d_Model_must_17 (by decide) ?_
      refine r_iadd hg d_Model_must_18 ?_
      refine r_put hg c_Model t_Model_ok n_Model (by decide) rfl (Nat.le_of_ble_eq_true rfl) rfl rfl (by decide +kernel) wf_Model_292 d_Model_must_19 ?_
      refine r_letM (fun μ_19 => ?_)
      refine r_goto (tgt := 41) hg d_Model_must_22 (by decide) ?_
      refine r_sub [] rfl ?_
      exact t_Model_must_J41 hg hA μ_19
theorem t_Model_must (v1 : Int32) (μ : HMem) : HSpec y_Model_must b_Model_must 2 none 1 h_eV [.ref 125, .int v1] μ (f_Model_must v1 μ) :=
  HSpec.of (by decide +kernel) (v_Model_must.1 _ (by simp)) (Nat.le_of_ble_eq_true rfl) (fun cx hA hg => t_Model_must_0 hg hA v1 μ)
theorem t_Model_digit_J32 {cx : HCx} (hg : HGood cx R_Model b_Model_digit 3 2 (some .int)) (hA : h_own cx)   (s0 : Int32) (μ : HMem) : HX cx (HQ cx h_eI) (f_Model_digit_J32   s0 μ) 0 0 32 [] [.int s0] μ := by
  unfold f_Model_digit_J32
  exact r_iret hg hA rfl d_Model_digit_32 rfl
theorem t_Model_digit_0 {cx : HCx} (hg : HGood cx R_Model b_Model_digit 3 2 (some .int)) (hA : h_own cx) (v1 : Int32) (μ : HMem) : HX cx (HQ cx h_eI) (f_Model_digit v1 μ) 0 0 0 [(0, .ref 125), (1, .int v1)] [] μ := by
  unfold f_Model_digit
  refine r_aload_n hg 0 d_Model_digit_0 rfl rfl ?_
  refine r_callV (As := []) hg (t_Model_here  μ) v_Model_here c_Model rfl (by decide) rfl wm_Model_298 d_Model_digit_1 rfl ⟨by decide, by decide⟩ (Nat.le_of_ble_eq_true rfl) rfl (fun r1 μ_1 _ => ?_)
  refine r_bipush (v := 48) hg d_Model_digit_4 (by decide) ?_
  refine r_isub hg d_Model_digit_6 ?_
  refine r_letI (fun v2_7 => ?_)
  refine r_istore_n (l' := [(2, .int v2_7), (0, .ref 125), (1, .int v1)]) hg d_Model_digit_7 rfl (Nat.le_of_ble_eq_true rfl) rfl ?_
  refine r_aload_n hg 1 d_Model_digit_8 rfl rfl ?_
  refine r_iload_n hg 0 d_Model_digit_9 rfl rfl ?_
  refine r_iconst (v := 0) hg d_Model_digit_10 (by decide) ?_
  refine r_iload_n hg 2 d_Model_digit_11 rfl rfl ?_
  refine r_callS (As := [.int v2_7, .int 0, .int v1]) hg (t_Model_in v2_7 0 v1 μ_1) v_Model_in wm_Model_67 d_Model_digit_12 rfl ⟨by decide, by decide⟩ (Nat.le_of_ble_eq_true rfl) rfl (fun r12 μ_12 _ => ?_)
  refine r_callV (As := [.int r12]) hg (t_Model_must r12 μ_12) v_Model_must c_Model rfl (by decide) rfl wm_Model_301 d_Model_digit_15 rfl ⟨by decide, by decide⟩ (Nat.le_of_ble_eq_true rfl) rfl (fun r15 μ_15 _ => ?_)
  refine r_iload_n hg 0 d_Model_digit_18 rfl rfl ?_
  refine r_iconst (v := 0) hg d_Model_digit_19 (by decide) ?_
  refine r_iload_n hg 2 d_Model_digit_20 rfl rfl ?_
  refine r_callS (As := [.int v2_7, .int 0, .int v1]) hg (t_Model_in v2_7 0 v1 μ_15) v_Model_in wm_Model_67 d_Model_digit_21 rfl ⟨by decide, by decide⟩ (Nat.le_of_ble_eq_true rfl) rfl (fun r21 μ_21 _ => ?_)
  refine r_if_eq (tgt := 31) hg d_Model_digit_24 (by decide) ?_ ?_
  · refine r_iconst (v := 0) hg d_Model_digit_31 (by decide) ?_
    refine r_sub [] rfl ?_
    exact t_Model_digit_J32 hg hA 0 μ_21
  · refine r_iload_n hg 0 d_Model_digit_27 rfl rfl ?_
    refine r_goto (tgt := 32) hg d_Model_digit_28 (by decide) ?_
    refine r_sub [] rfl ?_
    exact t_Model_digit_J32 hg hA v2_7 μ_21
theorem t_Model_digit (v1 : Int32) (μ : HMem) : HSpec y_Model_digit b_Model_digit 3 (some .int) 2 h_eI [.ref 125, .int v1] μ (f_Model_digit v1 μ) :=
  HSpec.of (by decide +kernel) (v_Model_digit.1 _ (by simp)) (Nat.le_of_ble_eq_true rfl) (fun cx hA hg => t_Model_digit_0 hg hA v1 μ)
theorem t_Model_signed_J57 {cx : HCx} (hg : HGood cx R_Model b_Model_signed 4 3 (some .int)) (hA : h_own cx)   (s0 : Int32) (μ : HMem) : HX cx (HQ cx h_eI) (f_Model_signed_J57   s0 μ) 0 0 57 [] [.int s0] μ := by
  unfold f_Model_signed_J57
  exact r_iret hg hA rfl d_Model_signed_57 rfl
theorem t_Model_signed_J37 {cx : HCx} (hg : HGood cx R_Model b_Model_signed 4 3 (some .int)) (hA : h_own cx)   (v1 : Int32) (v2 : Int32) (s0 : Int32) (s1 : Int32) (μ : HMem) : HX cx (HQ cx h_eI) (f_Model_signed_J37   v1 v2 s0 s1 μ) 0 0 37 [(0, .ref 125), (1, .int v1), (2, .int v2)] [.int s0, .int s1, .ref 125] μ := by
  unfold f_Model_signed_J37
  refine r_iadd hg d_Model_signed_37 ?_
  refine r_put hg c_Model t_Model_ok n_Model (by decide) rfl (Nat.le_of_ble_eq_true rfl) rfl rfl (by decide +kernel) wf_Model_292 d_Model_signed_38 ?_
  refine r_letM (fun μ_38 => ?_)
  refine r_aload_n hg 0 d_Model_signed_41 rfl rfl ?_
  refine r_iload_n hg 1 d_Model_signed_42 rfl rfl ?_
  refine r_callV (As := [.int v1]) hg (t_Model_digit v1 μ_38) v_Model_digit c_Model rfl (by decide) rfl wm_Model_305 d_Model_signed_43 rfl ⟨by decide, by decide⟩ (Nat.le_of_ble_eq_true rfl) rfl (fun r43 μ_43 _ => ?_)
  refine r_istore_n (l' := [(3, .int r43), (0, .ref 125), (1, .int v1), (2, .int v2)]) hg d_Model_signed_46 rfl (Nat.le_of_ble_eq_true rfl) rfl ?_
  refine r_iload_n hg 3 d_Model_signed_47 rfl rfl ?_
  refine r_if_eq (tgt := 56) hg d_Model_signed_48 (by decide) ?_ ?_
  · refine r_iload_n hg 0 d_Model_signed_56 rfl rfl ?_
    refine r_sub [] rfl ?_
    exact t_Model_signed_J57 hg hA r43 μ_43
  · refine r_iload_n hg 0 d_Model_signed_51 rfl rfl ?_
    refine r_ineg hg d_Model_signed_52 ?_
    refine r_goto (tgt := 57) hg d_Model_signed_53 (by decide) ?_
    refine r_sub [] rfl ?_
    exact t_Model_signed_J57 hg hA (-r43) μ_43
theorem t_Model_signed_J22 {cx : HCx} (hg : HGood cx R_Model b_Model_signed 4 3 (some .int)) (hA : h_own cx)   (v1 : Int32) (s0 : Int32) (μ : HMem) : HX cx (HQ cx h_eI) (f_Model_signed_J22   v1 s0 μ) 0 0 22 [(0, .ref 125), (1, .int v1)] [.int s0] μ := by
  unfold f_Model_signed_J22
  refine r_istore_n (l' := [(2, .int s0), (0, .ref 125), (1, .int v1)]) hg d_Model_signed_22 rfl (Nat.le_of_ble_eq_true rfl) rfl ?_
  refine r_aload_n hg 1 d_Model_signed_23 rfl rfl ?_
  refine r_dup hg d_Model_signed_24 rfl ?_
  refine r_get (v := .int (μ.1 125 21)) hg c_Model (by decide) rfl (Nat.le_of_ble_eq_true rfl) rfl wf_Model_292 d_Model_signed_25 rfl ?_
  refine r_iload_n hg 0 d_Model_signed_28 rfl rfl ?_
  refine r_if_eq (tgt := 36) hg d_Model_signed_29 (by decide) ?_ ?_
  · refine r_iconst (v := 0) hg d_Model_signed_36 (by decide) ?_
    refine r_sub [1, 2, 0] rfl ?_
    exact t_Model_signed_J37 hg hA v1 s0 0 (μ.1 125 21) μ
  · refine r_iconst (v := 1) hg d_Model_signed_32 (by decide) ?_
    refine r_goto (tgt := 37) hg d_Model_signed_33 (by decide) ?_
    refine r_sub [1, 2, 0] rfl ?_
    exact t_Model_signed_J37 hg hA v1 s0 1 (μ.1 125 21) μ
theorem t_Model_signed_J21 {cx : HCx} (hg : HGood cx R_Model b_Model_signed 4 3 (some .int)) (hA : h_own cx)   (v1 : Int32) (μ : HMem) : HX cx (HQ cx h_eI) (f_Model_signed_J21   v1 μ) 0 0 21 [(0, .ref 125), (1, .int v1)] [] μ := by
  unfold f_Model_signed_J21
  refine r_iconst (v := 0) hg d_Model_signed_21 (by decide) ?_
  exact t_Model_signed_J22 hg hA v1 0 μ
theorem t_Model_signed_0 {cx : HCx} (hg : HGood cx R_Model b_Model_signed 4 3 (some .int)) (hA : h_own cx) (v1 : Int32) (μ : HMem) : HX cx (HQ cx h_eI) (f_Model_signed v1 μ) 0 0 0 [(0, .ref 125), (1, .int v1)] [] μ := by
  unfold f_Model_signed
  refine r_aload_n hg 0 d_Model_signed_0 rfl rfl ?_
  refine r_get (v := .int (μ.1 125 22)) hg c_Model (by decide) rfl (Nat.le_of_ble_eq_true rfl) rfl wf_Model_295 d_Model_signed_1 rfl ?_
  refine r_iconst (v := -1) hg d_Model_signed_4 (by decide) ?_
  refine r_icmp_ne (tgt := 21) hg d_Model_signed_5 (by decide) ?_ ?_
  · exact t_Model_signed_J21 hg hA v1 μ
  · refine r_aload_n hg 0 d_Model_signed_8 rfl rfl ?_
    refine r_callV (As := []) hg (t_Model_here  μ) v_Model_here c_Model rfl (by decide) rfl wm_Model_298 d_Model_signed_9 rfl ⟨by decide, by decide⟩ (Nat.le_of_ble_eq_true rfl) rfl (fun r9 μ_9 _ => ?_)
    refine r_bipush (v := 45) hg d_Model_signed_12 (by decide) ?_
    refine r_icmp_ne (tgt := 21) hg d_Model_signed_14 (by decide) ?_ ?_
    · exact t_Model_signed_J21 hg hA v1 μ_9
    · refine r_iconst (v := 1) hg d_Model_signed_17 (by decide) ?_
      refine r_goto (tgt := 22) hg d_Model_signed_18 (by decide) ?_
      exact t_Model_signed_J22 hg hA v1 1 μ_9
theorem t_Model_signed (v1 : Int32) (μ : HMem) : HSpec y_Model_signed b_Model_signed 4 (some .int) 3 h_eI [.ref 125, .int v1] μ (f_Model_signed v1 μ) :=
  HSpec.of (by decide +kernel) (v_Model_signed.1 _ (by simp)) (Nat.le_of_ble_eq_true rfl) (fun cx hA hg => t_Model_signed_0 hg hA v1 μ)
theorem t_Model_readItem_J193 {cx : HCx} (hg : HGood cx R_Model b_Model_readItem 6 4 none) (hA : h_own cx)    (μ : HMem) : HX cx (HQ cx h_eV) (f_Model_readItem_J193   μ) 0 0 193 [] [] μ := by
  unfold f_Model_readItem_J193
  exact r_vret hg hA rfl d_Model_readItem_193 rfl
theorem t_Model_readItem_J174 {cx : HCx} (hg : HGood cx R_Model b_Model_readItem 6 4 none) (hA : h_own cx)   (v2 : Int32) (v3 : Int32) (s0 : Int32) (μ : HMem) : HX cx (HQ cx h_eV) (f_Model_readItem_J174   v2 v3 s0 μ) 0 0 174 [(0, .ref 125), (2, .int v2), (3, .int v3)] [.int s0] μ := by
  unfold f_Model_readItem_J174
  refine r_istore (l' := [(5, .int s0), (0, .ref 125), (2, .int v2), (3, .int v3)]) hg d_Model_readItem_174 (Nat.le_of_ble_eq_true rfl) rfl ?_
  refine r_aload_n hg 1 d_Model_readItem_176 rfl rfl ?_
  refine r_get (v := .int (μ.1 125 22)) hg c_Model (by decide) rfl (Nat.le_of_ble_eq_true rfl) rfl wf_Model_295 d_Model_readItem_177 rfl ?_
  refine r_iconst (v := -1) hg d_Model_readItem_180 (by decide) ?_
  refine r_icmp_ne (tgt := 193) hg d_Model_readItem_181 (by decide) ?_ ?_
  · refine r_sub [] rfl ?_
    exact t_Model_readItem_J193 hg hA μ
  · refine r_aload_n hg 1 d_Model_readItem_184 rfl rfl ?_
    refine r_iconst (v := 4) hg d_Model_readItem_185 (by decide) ?_
    refine r_iload_n hg 2 d_Model_readItem_186 rfl rfl ?_
    refine r_iload_n hg 3 d_Model_readItem_187 rfl rfl ?_
    refine r_iload hg 0 d_Model_readItem_188 rfl ?_
    refine r_callV (As := [.int 4, .int v2, .int v3, .int s0]) hg (t_Model_puts 4 v2 v3 s0 μ) v_Model_puts c_Model rfl (by decide) rfl wm_Model_111 d_Model_readItem_190 rfl ⟨by decide, by decide⟩ (Nat.le_of_ble_eq_true rfl) rfl (fun r190 μ_190 _ => ?_)
    refine r_sub [] rfl ?_
    exact t_Model_readItem_J193 hg hA μ_190
theorem t_Model_readItem_J156 {cx : HCx} (hg : HGood cx R_Model b_Model_readItem 6 4 none) (hA : h_own cx)   (v2 : Int32) (v3 : Int32) (v4 : Int32) (s0 : Int32) (s1 : Int32) (μ : HMem) : HX cx (HQ cx h_eV) (f_Model_readItem_J156   v2 v3 v4 s0 s1 μ) 0 0 156 [(0, .ref 125), (2, .int v2), (3, .int v3), (4, .int v4)] [.int s0, .int s1, .ref 125] μ := by
  unfold f_Model_readItem_J156
  refine r_iadd hg d_Model_readItem_156 ?_
  refine r_put hg c_Model t_Model_ok n_Model (by decide) rfl (Nat.le_of_ble_eq_true rfl) rfl rfl (by decide +kernel) wf_Model_292 d_Model_readItem_157 ?_
  refine r_letM (fun μ_157 => ?_)
  refine r_iload hg 3 d_Model_readItem_160 rfl ?_
  refine r_if_eq (tgt := 173) hg d_Model_readItem_162 (by decide) ?_ ?_
  · refine r_iconst (v := 1) hg d_Model_readItem_173 (by decide) ?_
    refine r_sub [0, 1, 2] rfl ?_
    exact t_Model_readItem_J174 hg hA v2 v3 1 μ_157
  · refine r_aload_n hg 0 d_Model_readItem_165 rfl rfl ?_
    refine r_iconst (v := 2) hg d_Model_readItem_166 (by decide) ?_
    refine r_callV (As := [.int 2]) hg (t_Model_signed 2 μ_157) v_Model_signed c_Model rfl (by decide) rfl wm_Model_308 d_Model_readItem_167 rfl ⟨by decide, by decide⟩ (Nat.le_of_ble_eq_true rfl) rfl (fun r167 μ_167 _ => ?_)
    refine r_goto (tgt := 174) hg d_Model_readItem_170 (by decide) ?_
    refine r_sub [0, 1, 2] rfl ?_
    exact t_Model_readItem_J174 hg hA v2 v3 r167 μ_167
theorem t_Model_readItem_J139 {cx : HCx} (hg : HGood cx R_Model b_Model_readItem 6 4 none) (hA : h_own cx)   (v2 : Int32) (v3 : Int32) (s0 : Int32) (μ : HMem) : HX cx (HQ cx h_eV) (f_Model_readItem_J139   v2 v3 s0 μ) 0 0 139 [(0, .ref 125), (2, .int v2), (3, .int v3)] [.int s0] μ := by
  unfold f_Model_readItem_J139
  refine r_istore (l' := [(4, .int s0), (0, .ref 125), (2, .int v2), (3, .int v3)]) hg d_Model_readItem_139 (Nat.le_of_ble_eq_true rfl) rfl ?_
  refine r_aload_n hg 1 d_Model_readItem_141 rfl rfl ?_
  refine r_dup hg d_Model_readItem_142 rfl ?_
  refine r_get (v := .int (μ.1 125 21)) hg c_Model (by decide) rfl (Nat.le_of_ble_eq_true rfl) rfl wf_Model_292 d_Model_readItem_143 rfl ?_
  refine r_iload hg 0 d_Model_readItem_146 rfl ?_
  refine r_if_eq (tgt := 155) hg d_Model_readItem_148 (by decide) ?_ ?_
  · refine r_iconst (v := 0) hg d_Model_readItem_155 (by decide) ?_
    refine r_sub [1, 2, 3, 0] rfl ?_
    exact t_Model_readItem_J156 hg hA v2 v3 s0 0 (μ.1 125 21) μ
  · refine r_iconst (v := 1) hg d_Model_readItem_151 (by decide) ?_
    refine r_goto (tgt := 156) hg d_Model_readItem_152 (by decide) ?_
    refine r_sub [1, 2, 3, 0] rfl ?_
    exact t_Model_readItem_J156 hg hA v2 v3 s0 1 (μ.1 125 21) μ
theorem t_Model_readItem_J138 {cx : HCx} (hg : HGood cx R_Model b_Model_readItem 6 4 none) (hA : h_own cx)   (v2 : Int32) (v3 : Int32) (μ : HMem) : HX cx (HQ cx h_eV) (f_Model_readItem_J138   v2 v3 μ) 0 0 138 [(0, .ref 125), (2, .int v2), (3, .int v3)] [] μ := by
  unfold f_Model_readItem_J138
  refine r_iconst (v := 0) hg d_Model_readItem_138 (by decide) ?_
  exact t_Model_readItem_J139 hg hA v2 v3 0 μ
theorem t_Model_readItem_J105 {cx : HCx} (hg : HGood cx R_Model b_Model_readItem 6 4 none) (hA : h_own cx)   (v1 : Int32) (μ : HMem) : HX cx (HQ cx h_eV) (f_Model_readItem_J105   v1 μ) 0 0 105 [(0, .ref 125), (1, .int v1)] [] μ := by
  unfold f_Model_readItem_J105
  refine r_aload_n hg 0 d_Model_readItem_105 rfl rfl ?_
  refine r_iload_n hg 1 d_Model_readItem_106 rfl rfl ?_
  refine r_callV (As := [.int v1]) hg (t_Model_digit v1 μ) v_Model_digit c_Model rfl (by decide) rfl wm_Model_305 d_Model_readItem_107 rfl ⟨by decide, by decide⟩ (Nat.le_of_ble_eq_true rfl) rfl (fun r107 μ_107 _ => ?_)
  refine r_istore_n (l' := [(2, .int r107), (0, .ref 125), (1, .int v1)]) hg d_Model_readItem_110 rfl (Nat.le_of_ble_eq_true rfl) rfl ?_
  refine r_aload_n hg 1 d_Model_readItem_111 rfl rfl ?_
  refine r_iload_n hg 2 d_Model_readItem_112 rfl rfl ?_
  refine r_callV (As := [.int v1]) hg (t_Model_digit v1 μ_107) v_Model_digit c_Model rfl (by decide) rfl wm_Model_305 d_Model_readItem_113 rfl ⟨by decide, by decide⟩ (Nat.le_of_ble_eq_true rfl) rfl (fun r113 μ_113 _ => ?_)
  refine r_istore_n (l' := [(3, .int r113), (2, .int r107), (0, .ref 125), (1, .int v1)]) hg d_Model_readItem_116 rfl (Nat.le_of_ble_eq_true rfl) rfl ?_
  refine r_aload_n hg 2 d_Model_readItem_117 rfl rfl ?_
  refine r_get (v := .int (μ_113.1 125 22)) hg c_Model (by decide) rfl (Nat.le_of_ble_eq_true rfl) rfl wf_Model_295 d_Model_readItem_118 rfl ?_
  refine r_iconst (v := -1) hg d_Model_readItem_121 (by decide) ?_
  refine r_icmp_ne (tgt := 138) hg d_Model_readItem_122 (by decide) ?_ ?_
  · refine r_sub [2, 1, 0] rfl ?_
    exact t_Model_readItem_J138 hg hA r107 r113 μ_113
  · refine r_aload_n hg 2 d_Model_readItem_125 rfl rfl ?_
    refine r_callV (As := []) hg (t_Model_here  μ_113) v_Model_here c_Model rfl (by decide) rfl wm_Model_298 d_Model_readItem_126 rfl ⟨by decide, by decide⟩ (Nat.le_of_ble_eq_true rfl) rfl (fun r126 μ_126 _ => ?_)
    refine r_bipush (v := 61) hg d_Model_readItem_129 (by decide) ?_
    refine r_icmp_ne (tgt := 138) hg d_Model_readItem_131 (by decide) ?_ ?_
    · refine r_sub [2, 1, 0] rfl ?_
      exact t_Model_readItem_J138 hg hA r107 r113 μ_126
    · refine r_iconst (v := 1) hg d_Model_readItem_134 (by decide) ?_
      refine r_goto (tgt := 139) hg d_Model_readItem_135 (by decide) ?_
      refine r_sub [2, 1, 0] rfl ?_
      exact t_Model_readItem_J139 hg hA r107 r113 1 μ_126
theorem t_Model_readItem_J102 {cx : HCx} (hg : HGood cx R_Model b_Model_readItem 6 4 none) (hA : h_own cx)    (μ : HMem) : HX cx (HQ cx h_eV) (f_Model_readItem_J102   μ) 0 0 102 [] [] μ := by
  unfold f_Model_readItem_J102
  refine r_goto (tgt := 193) hg d_Model_readItem_102 (by decide) ?_
  exact t_Model_readItem_J193 hg hA μ
theorem t_Model_readItem_J74 {cx : HCx} (hg : HGood cx R_Model b_Model_readItem 6 4 none) (hA : h_own cx)   (v2 : Int32) (s0 : Int32) (μ : HMem) : HX cx (HQ cx h_eV) (f_Model_readItem_J74   v2 s0 μ) 0 0 74 [(0, .ref 125), (2, .int v2)] [.int s0, .ref 125] μ := by
  unfold f_Model_readItem_J74
  refine r_callV (As := [.int s0]) hg (t_Model_must s0 μ) v_Model_must c_Model rfl (by decide) rfl wm_Model_301 d_Model_readItem_74 rfl ⟨by decide, by decide⟩ (Nat.le_of_ble_eq_true rfl) rfl (fun r74 μ_74 _ => ?_)
  refine r_aload_n hg 0 d_Model_readItem_77 rfl rfl ?_
  refine r_iconst (v := 3) hg d_Model_readItem_78 (by decide) ?_
  refine r_callV (As := [.int 3]) hg (t_Model_signed 3 μ_74) v_Model_signed c_Model rfl (by decide) rfl wm_Model_308 d_Model_readItem_79 rfl ⟨by decide, by decide⟩ (Nat.le_of_ble_eq_true rfl) rfl (fun r79 μ_79 _ => ?_)
  refine r_istore_n (l' := [(3, .int r79), (0, .ref 125), (2, .int v2)]) hg d_Model_readItem_82 rfl (Nat.le_of_ble_eq_true rfl) rfl ?_
  refine r_aload_n hg 1 d_Model_readItem_83 rfl rfl ?_
  refine r_get (v := .int (μ_79.1 125 22)) hg c_Model (by decide) rfl (Nat.le_of_ble_eq_true rfl) rfl wf_Model_295 d_Model_readItem_84 rfl ?_
  refine r_iconst (v := -1) hg d_Model_readItem_87 (by decide) ?_
  refine r_icmp_ne (tgt := 102) hg d_Model_readItem_88 (by decide) ?_ ?_
  · refine r_sub [] rfl ?_
    exact t_Model_readItem_J102 hg hA μ_79
  · refine r_aload_n hg 1 d_Model_readItem_91 rfl rfl ?_
    refine r_get (v := .ref 126) hg c_Model (by decide) rfl (Nat.le_of_ble_eq_true rfl) rfl wf_Model_7 d_Model_readItem_92 rfl ?_
    refine r_sipush (v := 293) hg d_Model_readItem_95 (by decide) ?_
    refine r_iload_n hg 2 d_Model_readItem_98 rfl rfl ?_
    refine r_iadd hg d_Model_readItem_99 ?_
    refine r_iload_n hg 0 d_Model_readItem_100 rfl rfl ?_
    refine r_iast hg (by decide) rfl d_Model_readItem_101 ?_
    refine r_letM (fun μ_101 => ?_)
    refine r_sub [] rfl ?_
    exact t_Model_readItem_J102 hg hA μ_101
theorem t_Model_readItem_J23 {cx : HCx} (hg : HGood cx R_Model b_Model_readItem 6 4 none) (hA : h_own cx)   (v1 : Int32) (s0 : Int32) (μ : HMem) : HX cx (HQ cx h_eV) (f_Model_readItem_J23   v1 s0 μ) 0 0 23 [(0, .ref 125), (1, .int v1)] [.int s0, .ref 125] μ := by
  unfold f_Model_readItem_J23
  refine r_callV (As := [.int s0]) hg (t_Model_must s0 μ) v_Model_must c_Model rfl (by decide) rfl wm_Model_301 d_Model_readItem_23 rfl ⟨by decide, by decide⟩ (Nat.le_of_ble_eq_true rfl) rfl (fun r23 μ_23 _ => ?_)
  refine r_aload_n hg 0 d_Model_readItem_26 rfl rfl ?_
  refine r_callV (As := []) hg (t_Model_here  μ_23) v_Model_here c_Model rfl (by decide) rfl wm_Model_298 d_Model_readItem_27 rfl ⟨by decide, by decide⟩ (Nat.le_of_ble_eq_true rfl) rfl (fun r27 μ_27 _ => ?_)
  refine r_bipush (v := 118) hg d_Model_readItem_30 (by decide) ?_
  refine r_icmp_ne (tgt := 105) hg d_Model_readItem_32 (by decide) ?_ ?_
  · exact t_Model_readItem_J105 hg hA v1 μ_27
  · refine r_aload_n hg 0 d_Model_readItem_35 rfl rfl ?_
    refine r_get (v := .int (μ_27.1 125 22)) hg c_Model (by decide) rfl (Nat.le_of_ble_eq_true rfl) rfl wf_Model_295 d_Model_readItem_36 rfl ?_
    refine r_iconst (v := -1) hg d_Model_readItem_39 (by decide) ?_
    refine r_icmp_ne (tgt := 105) hg d_Model_readItem_40 (by decide) ?_ ?_
    · exact t_Model_readItem_J105 hg hA v1 μ_27
    · refine r_aload_n hg 0 d_Model_readItem_43 rfl rfl ?_
      refine r_dup hg d_Model_readItem_44 rfl ?_
      refine r_get (v := .int (μ_27.1 125 21)) hg c_Model (by decide) rfl (Nat.le_of_ble_eq_true rfl) rfl wf_Model_292 d_Model_readItem_45 rfl ?_
      refine r_iconst (v := 1) hg d_Model_readItem_48 (by decide) ?_
      refine r_iadd hg d_Model_readItem_49 ?_
      refine r_put hg c_Model t_Model_ok n_Model (by decide) rfl (Nat.le_of_ble_eq_true rfl) rfl rfl (by decide +kernel) wf_Model_292 d_Model_readItem_50 ?_
      refine r_letM (fun μ_50 => ?_)
      refine r_aload_n hg 0 d_Model_readItem_53 rfl rfl ?_
      refine r_iload_n hg 1 d_Model_readItem_54 rfl rfl ?_
      refine r_callV (As := [.int v1]) hg (t_Model_digit v1 μ_50) v_Model_digit c_Model rfl (by decide) rfl wm_Model_305 d_Model_readItem_55 rfl ⟨by decide, by decide⟩ (Nat.le_of_ble_eq_true rfl) rfl (fun r55 μ_55 _ => ?_)
      refine r_istore_n (l' := [(2, .int r55), (0, .ref 125), (1, .int v1)]) hg d_Model_readItem_58 rfl (Nat.le_of_ble_eq_true rfl) rfl ?_
      refine r_aload_n hg 1 d_Model_readItem_59 rfl rfl ?_
      refine r_aload_n hg 1 d_Model_readItem_60 rfl rfl ?_
      refine r_callV (As := []) hg (t_Model_here  μ_55) v_Model_here c_Model rfl (by decide) rfl wm_Model_298 d_Model_readItem_61 rfl ⟨by decide, by decide⟩ (Nat.le_of_ble_eq_true rfl) rfl (fun r61 μ_61 _ => ?_)
      refine r_bipush (v := 61) hg d_Model_readItem_64 (by decide) ?_
      refine r_icmp_ne (tgt := 73) hg d_Model_readItem_66 (by decide) ?_ ?_
      · refine r_iconst (v := 0) hg d_Model_readItem_73 (by decide) ?_
        refine r_sub [1, 0] rfl ?_
        exact t_Model_readItem_J74 hg hA r55 0 μ_61
      · refine r_iconst (v := 1) hg d_Model_readItem_69 (by decide) ?_
        refine r_goto (tgt := 74) hg d_Model_readItem_70 (by decide) ?_
        refine r_sub [1, 0] rfl ?_
        exact t_Model_readItem_J74 hg hA r55 1 μ_61
theorem t_Model_readItem_0 {cx : HCx} (hg : HGood cx R_Model b_Model_readItem 6 4 none) (hA : h_own cx)  (μ : HMem) : HX cx (HQ cx h_eV) (f_Model_readItem μ) 0 0 0 [(0, .ref 125)] [] μ := by
  unfold f_Model_readItem
  refine r_aload_n hg 0 d_Model_readItem_0 rfl rfl ?_
  refine r_iconst (v := 4) hg d_Model_readItem_1 (by decide) ?_
  refine r_callV (As := [.int 4]) hg (t_Model_size 4 μ) v_Model_size c_Model rfl (by decide) rfl wm_Model_75 d_Model_readItem_2 rfl ⟨by decide, by decide⟩ (Nat.le_of_ble_eq_true rfl) rfl (fun r2 μ_2 _ => ?_)
  refine r_iconst (v := 1) hg d_Model_readItem_5 (by decide) ?_
  refine r_isub hg d_Model_readItem_6 ?_
  refine r_letI (fun v1_7 => ?_)
  refine r_istore_n (l' := [(1, .int v1_7), (0, .ref 125)]) hg d_Model_readItem_7 rfl (Nat.le_of_ble_eq_true rfl) rfl ?_
  refine r_aload_n hg 1 d_Model_readItem_8 rfl rfl ?_
  refine r_aload_n hg 1 d_Model_readItem_9 rfl rfl ?_
  refine r_callV (As := []) hg (t_Model_here  μ_2) v_Model_here c_Model rfl (by decide) rfl wm_Model_298 d_Model_readItem_10 rfl ⟨by decide, by decide⟩ (Nat.le_of_ble_eq_true rfl) rfl (fun r10 μ_10 _ => ?_)
  refine r_bipush (v := 59) hg d_Model_readItem_13 (by decide) ?_
  refine r_icmp_ne (tgt := 22) hg d_Model_readItem_15 (by decide) ?_ ?_
  · refine r_iconst (v := 0) hg d_Model_readItem_22 (by decide) ?_
    refine r_sub [1, 0] rfl ?_
    exact t_Model_readItem_J23 hg hA v1_7 0 μ_10
  · refine r_iconst (v := 1) hg d_Model_readItem_18 (by decide) ?_
    refine r_goto (tgt := 23) hg d_Model_readItem_19 (by decide) ?_
    refine r_sub [1, 0] rfl ?_
    exact t_Model_readItem_J23 hg hA v1_7 1 μ_10
theorem t_Model_readItem  (μ : HMem) : HSpec y_Model_readItem b_Model_readItem 6 none 4 h_eV [.ref 125] μ (f_Model_readItem μ) :=
  HSpec.of (by decide +kernel) (v_Model_readItem.1 _ (by simp)) (Nat.le_of_ble_eq_true rfl) (fun cx hA hg => t_Model_readItem_0 hg hA  μ)
theorem t_Model_parse_L36_b {cx : HCx} (hg : HGood cx R_Model b_Model_parse 3 5 (some .int)) (hA : h_own cx) (K65 : Int32 → Int32 → HMem → Option (Int32 × HMem)) (hK65 : p_Model_parse_65 cx K65) (rec_ : Int32 → Int32 → HMem → Option (Int32 × HMem)) (hrec_ : p_Model_parse_36 cx rec_) (v1 : Int32) (v2 : Int32) (μ : HMem) : HX cx (HQ cx h_eI) (f_Model_parse_L36_b K65 rec_ v1 v2 μ) 0 0 36 [(0, .ref 125), (1, .int v1), (2, .int v2)] [] μ := by
  unfold f_Model_parse_L36_b
  refine r_aload_n hg 0 d_Model_parse_36 rfl rfl ?_
  refine r_get (v := .int (μ.1 125 22)) hg c_Model (by decide) rfl (Nat.le_of_ble_eq_true rfl) rfl wf_Model_295 d_Model_parse_37 rfl ?_
  refine r_iconst (v := -1) hg d_Model_parse_40 (by decide) ?_
  refine r_icmp_ne (tgt := 65) hg d_Model_parse_41 (by decide) ?_ ?_
  · exact hK65 v1 v2 μ
  · refine r_aload_n hg 0 d_Model_parse_44 rfl rfl ?_
    refine r_get (v := .int (μ.1 125 21)) hg c_Model (by decide) rfl (Nat.le_of_ble_eq_true rfl) rfl wf_Model_292 d_Model_parse_45 rfl ?_
    refine r_aload_n hg 0 d_Model_parse_48 rfl rfl ?_
    refine r_get (v := .int (μ.1 125 4)) hg c_Model (by decide) rfl (Nat.le_of_ble_eq_true rfl) rfl wf_Model_289 d_Model_parse_49 rfl ?_
    refine r_icmp_ge (tgt := 65) hg d_Model_parse_52 (by decide) ?_ ?_
    · exact hK65 v1 v2 μ
    · refine r_aload_n hg 0 d_Model_parse_55 rfl rfl ?_
      refine r_callV (As := []) hg (t_Model_readItem  μ) v_Model_readItem c_Model rfl (by decide) rfl wm_Model_311 d_Model_parse_56 rfl ⟨by decide, by decide⟩ (Nat.le_of_ble_eq_true rfl) rfl (fun r56 μ_56 _ => ?_)
      refine r_letE (fun v2_59 he_59 => ?_)
      refine r_iinc (v := v2_59) (l' := [(2, .int v2_59), (0, .ref 125), (1, .int v1)]) hg 2 d_Model_parse_59 rfl he_59 (Nat.le_of_ble_eq_true rfl) rfl ?_
      refine r_goto (tgt := 36) hg d_Model_parse_62 (by decide) ?_
      refine r_sub [1, 2, 0] rfl ?_
      exact hrec_ v1 v2_59 μ_56
theorem t_Model_parse_L36 {cx : HCx} (hg : HGood cx R_Model b_Model_parse 3 5 (some .int)) (hA : h_own cx) (K65 : Int32 → Int32 → HMem → Option (Int32 × HMem)) (hK65 : p_Model_parse_65 cx K65) : ∀ (fuel : Nat) (v1 : Int32) (v2 : Int32) (μ : HMem), HX cx (HQ cx h_eI) (f_Model_parse_L36 K65 fuel v1 v2 μ) 0 0 36 [(0, .ref 125), (1, .int v1), (2, .int v2)] [] μ
  | 0, _, _, _ => by unfold f_Model_parse_L36; exact HX.none
  | fuel + 1, v1, v2, μ => by
    rw [f_Model_parse_L36]
    exact t_Model_parse_L36_b hg hA  K65 hK65 (f_Model_parse_L36 K65 fuel) (t_Model_parse_L36 hg hA  K65 hK65 fuel) v1 v2 μ
theorem t_Model_parse_J65 {cx : HCx} (hg : HGood cx R_Model b_Model_parse 3 5 (some .int)) (hA : h_own cx)   (v1 : Int32) (v2 : Int32) (μ : HMem) : HX cx (HQ cx h_eI) (f_Model_parse_J65   v1 v2 μ) 0 0 65 [(0, .ref 125), (1, .int v1), (2, .int v2)] [] μ := by
  unfold f_Model_parse_J65
  refine r_aload_n hg 0 d_Model_parse_65 rfl rfl ?_
  refine r_get (v := .int (μ.1 125 22)) hg c_Model (by decide) rfl (Nat.le_of_ble_eq_true rfl) rfl wf_Model_295 d_Model_parse_66 rfl ?_
  refine r_iconst (v := -1) hg d_Model_parse_69 (by decide) ?_
  refine r_icmp_eq (tgt := 85) hg d_Model_parse_70 (by decide) ?_ ?_
  · refine r_aload_n hg 0 d_Model_parse_85 rfl rfl ?_
    refine r_iload_n hg 1 d_Model_parse_86 rfl rfl ?_
    refine r_callV (As := [.int v1]) hg (t_Model_keeps v1 μ) v_Model_keeps c_Model rfl (by decide) rfl wm_Model_99 d_Model_parse_87 rfl ⟨by decide, by decide⟩ (Nat.le_of_ble_eq_true rfl) rfl (fun r87 μ_87 _ => ?_)
    refine r_iload_n hg 2 d_Model_parse_90 rfl rfl ?_
    exact r_iret hg hA rfl d_Model_parse_91 rfl
  · refine r_aload_n hg 0 d_Model_parse_73 rfl rfl ?_
    refine r_bipush (v := -10) hg d_Model_parse_74 (by decide) ?_
    refine r_aload_n hg 0 d_Model_parse_76 rfl rfl ?_
    refine r_get (v := .int (μ.1 125 22)) hg c_Model (by decide) rfl (Nat.le_of_ble_eq_true rfl) rfl wf_Model_295 d_Model_parse_77 rfl ?_
    refine r_isub hg d_Model_parse_80 ?_
    refine r_callV (As := [.int ((-10) - (μ.1 125 22))]) hg (t_Model_tells ((-10) - (μ.1 125 22)) μ) v_Model_tells c_Model rfl (by decide) rfl wm_Model_171 d_Model_parse_81 rfl ⟨by decide, by decide⟩ (Nat.le_of_ble_eq_true rfl) rfl (fun r81 μ_81 _ => ?_)
    exact r_iret hg hA rfl d_Model_parse_84 rfl
theorem t_Model_parse_0 {cx : HCx} (hg : HGood cx R_Model b_Model_parse 3 5 (some .int)) (hA : h_own cx) (v1 : Int32) (μ : HMem) : HX cx (HQ cx h_eI) (f_Model_parse v1 μ) 0 0 0 [(0, .ref 125), (1, .int v1)] [] μ := by
  unfold f_Model_parse
  refine r_iload_n hg 1 d_Model_parse_0 rfl rfl ?_
  refine r_callS (As := [.int v1]) hg (t_Model_isGraph v1 μ) v_Model_isGraph wm_Model_71 d_Model_parse_1 rfl ⟨by decide, by decide⟩ (Nat.le_of_ble_eq_true rfl) rfl (fun r1 μ_1 _ => ?_)
  refine r_if_ne (tgt := 13) hg d_Model_parse_4 (by decide) ?_ ?_
  · refine r_aload_n hg 0 d_Model_parse_13 rfl rfl ?_
    refine r_iconst (v := 0) hg d_Model_parse_14 (by decide) ?_
    refine r_put hg c_Model t_Model_ok n_Model (by decide) rfl (Nat.le_of_ble_eq_true rfl) rfl rfl (by decide +kernel) wf_Model_292 d_Model_parse_15 ?_
    refine r_letM (fun μ_15 => ?_)
    refine r_aload_n hg 0 d_Model_parse_18 rfl rfl ?_
    refine r_iconst (v := -1) hg d_Model_parse_19 (by decide) ?_
    refine r_put hg c_Model t_Model_ok n_Model (by decide) rfl (Nat.le_of_ble_eq_true rfl) rfl rfl (by decide +kernel) wf_Model_295 d_Model_parse_20 ?_
    refine r_letM (fun μ_20 => ?_)
    refine r_aload_n hg 0 d_Model_parse_23 rfl rfl ?_
    refine r_iconst (v := 4) hg d_Model_parse_24 (by decide) ?_
    refine r_aload_n hg 0 d_Model_parse_25 rfl rfl ?_
    refine r_bipush (v := 8) hg d_Model_parse_26 (by decide) ?_
    refine r_callV (As := [.int 8]) hg (t_Model_digit 8 μ_20) v_Model_digit c_Model rfl (by decide) rfl wm_Model_305 d_Model_parse_28 rfl ⟨by decide, by decide⟩ (Nat.le_of_ble_eq_true rfl) rfl (fun r28 μ_28 _ => ?_)
    refine r_callV (As := [.int 4, .int r28]) hg (t_Model_begins 4 r28 μ_28) v_Model_begins c_Model rfl (by decide) rfl wm_Model_96 d_Model_parse_31 rfl ⟨by decide, by decide⟩ (Nat.le_of_ble_eq_true rfl) rfl (fun r31 μ_31 _ => ?_)
    refine r_iconst (v := 0) hg d_Model_parse_34 (by decide) ?_
    refine r_istore_n (l' := [(2, .int 0), (0, .ref 125), (1, .int v1)]) hg d_Model_parse_35 rfl (Nat.le_of_ble_eq_true rfl) rfl ?_
    refine r_sub [1, 2, 0] rfl ?_
    exact t_Model_parse_L36 hg hA f_Model_parse_J65 (t_Model_parse_J65 hg hA) h_fuel v1 0 μ_31
  · refine r_aload_n hg 0 d_Model_parse_7 rfl rfl ?_
    refine r_iconst (v := 1) hg d_Model_parse_8 (by decide) ?_
    refine r_callV (As := [.int 1]) hg (t_Model_fails 1 μ_1) v_Model_fails c_Model rfl (by decide) rfl wm_Model_93 d_Model_parse_9 rfl ⟨by decide, by decide⟩ (Nat.le_of_ble_eq_true rfl) rfl (fun r9 μ_9 _ => ?_)
    exact r_iret hg hA rfl d_Model_parse_12 rfl
theorem t_Model_parse (v1 : Int32) (μ : HMem) : HSpec y_Model_parse b_Model_parse 3 (some .int) 5 h_eI [.ref 125, .int v1] μ (f_Model_parse v1 μ) :=
  HSpec.of (by decide +kernel) (v_Model_parse.1 _ (by simp)) (Nat.le_of_ble_eq_true rfl) (fun cx hA hg => t_Model_parse_0 hg hA v1 μ)
theorem t_Model_writes_0 {cx : HCx} (hg : HGood cx R_Model b_Model_writes 2 1 none) (hA : h_own cx) (v1 : Int32) (μ : HMem) : HX cx (HQ cx h_eV) (f_Model_writes v1 μ) 0 0 0 [(0, .ref 125), (1, .int v1)] [] μ := by
  unfold f_Model_writes
  refine r_aload_n hg 0 d_Model_writes_0 rfl rfl ?_
  refine r_get (v := .ref 142) hg c_Model (by decide) rfl (Nat.le_of_ble_eq_true rfl) rfl wf_Model_60 d_Model_writes_1 rfl ?_
  refine r_aload_n hg 0 d_Model_writes_4 rfl rfl ?_
  refine r_get (v := .int (μ.1 125 24)) hg c_Model (by decide) rfl (Nat.le_of_ble_eq_true rfl) rfl wf_Model_314 d_Model_writes_5 rfl ?_
  refine r_iload_n hg 1 d_Model_writes_8 rfl rfl ?_
  refine r_iast hg (by decide) rfl d_Model_writes_9 ?_
  refine r_letM (fun μ_9 => ?_)
  refine r_aload_n hg 0 d_Model_writes_10 rfl rfl ?_
  refine r_dup hg d_Model_writes_11 rfl ?_
  refine r_get (v := .int (μ_9.1 125 24)) hg c_Model (by decide) rfl (Nat.le_of_ble_eq_true rfl) rfl wf_Model_314 d_Model_writes_12 rfl ?_
  refine r_iconst (v := 1) hg d_Model_writes_15 (by decide) ?_
  refine r_iadd hg d_Model_writes_16 ?_
  refine r_put hg c_Model t_Model_ok n_Model (by decide) rfl (Nat.le_of_ble_eq_true rfl) rfl rfl (by decide +kernel) wf_Model_314 d_Model_writes_17 ?_
  refine r_letM (fun μ_17 => ?_)
  exact r_vret hg hA rfl d_Model_writes_20 rfl
theorem t_Model_writes (v1 : Int32) (μ : HMem) : HSpec y_Model_writes b_Model_writes 2 none 1 h_eV [.ref 125, .int v1] μ (f_Model_writes v1 μ) :=
  HSpec.of (by decide +kernel) (v_Model_writes.1 _ (by simp)) (Nat.le_of_ble_eq_true rfl) (fun cx hA hg => t_Model_writes_0 hg hA v1 μ)
theorem t_Model_writesWeight_J29 {cx : HCx} (hg : HGood cx R_Model b_Model_writesWeight 2 2 none) (hA : h_own cx)   (s0 : Int32) (s1 : Int32) (μ : HMem) : HX cx (HQ cx h_eV) (f_Model_writesWeight_J29   s0 s1 μ) 0 0 29 [] [.int s0, .int s1, .ref 125] μ := by
  unfold f_Model_writesWeight_J29
  refine r_iadd hg d_Model_writesWeight_29 ?_
  refine r_callV (As := [.int (s1 + s0)]) hg (t_Model_writes (s1 + s0) μ) v_Model_writes c_Model rfl (by decide) rfl wm_Model_317 d_Model_writesWeight_30 rfl ⟨by decide, by decide⟩ (Nat.le_of_ble_eq_true rfl) rfl (fun r30 μ_30 _ => ?_)
  exact r_vret hg hA rfl d_Model_writesWeight_33 rfl
theorem t_Model_writesWeight_J16 {cx : HCx} (hg : HGood cx R_Model b_Model_writesWeight 2 2 none) (hA : h_own cx)   (v1 : Int32) (μ : HMem) : HX cx (HQ cx h_eV) (f_Model_writesWeight_J16   v1 μ) 0 0 16 [(0, .ref 125), (1, .int v1)] [] μ := by
  unfold f_Model_writesWeight_J16
  refine r_aload_n hg 0 d_Model_writesWeight_16 rfl rfl ?_
  refine r_bipush (v := 48) hg d_Model_writesWeight_17 (by decide) ?_
  refine r_iload_n hg 1 d_Model_writesWeight_19 rfl rfl ?_
  refine r_if_ge (tgt := 28) hg d_Model_writesWeight_20 (by decide) ?_ ?_
  · refine r_iload_n hg 1 d_Model_writesWeight_28 rfl rfl ?_
    refine r_sub [] rfl ?_
    exact t_Model_writesWeight_J29 hg hA v1 48 μ
  · refine r_iload_n hg 1 d_Model_writesWeight_23 rfl rfl ?_
    refine r_ineg hg d_Model_writesWeight_24 ?_
    refine r_goto (tgt := 29) hg d_Model_writesWeight_25 (by decide) ?_
    refine r_sub [] rfl ?_
    exact t_Model_writesWeight_J29 hg hA (-v1) 48 μ
theorem t_Model_writesWeight_0 {cx : HCx} (hg : HGood cx R_Model b_Model_writesWeight 2 2 none) (hA : h_own cx) (v1 : Int32) (μ : HMem) : HX cx (HQ cx h_eV) (f_Model_writesWeight v1 μ) 0 0 0 [(0, .ref 125), (1, .int v1)] [] μ := by
  unfold f_Model_writesWeight
  refine r_aload_n hg 0 d_Model_writesWeight_0 rfl rfl ?_
  refine r_bipush (v := 61) hg d_Model_writesWeight_1 (by decide) ?_
  refine r_callV (As := [.int 61]) hg (t_Model_writes 61 μ) v_Model_writes c_Model rfl (by decide) rfl wm_Model_317 d_Model_writesWeight_3 rfl ⟨by decide, by decide⟩ (Nat.le_of_ble_eq_true rfl) rfl (fun r3 μ_3 _ => ?_)
  refine r_iload_n hg 1 d_Model_writesWeight_6 rfl rfl ?_
  refine r_if_ge (tgt := 16) hg d_Model_writesWeight_7 (by decide) ?_ ?_
  · exact t_Model_writesWeight_J16 hg hA v1 μ_3
  · refine r_aload_n hg 0 d_Model_writesWeight_10 rfl rfl ?_
    refine r_bipush (v := 45) hg d_Model_writesWeight_11 (by decide) ?_
    refine r_callV (As := [.int 45]) hg (t_Model_writes 45 μ_3) v_Model_writes c_Model rfl (by decide) rfl wm_Model_317 d_Model_writesWeight_13 rfl ⟨by decide, by decide⟩ (Nat.le_of_ble_eq_true rfl) rfl (fun r13 μ_13 _ => ?_)
    exact t_Model_writesWeight_J16 hg hA v1 μ_13
theorem t_Model_writesWeight (v1 : Int32) (μ : HMem) : HSpec y_Model_writesWeight b_Model_writesWeight 2 none 2 h_eV [.ref 125, .int v1] μ (f_Model_writesWeight v1 μ) :=
  HSpec.of (by decide +kernel) (v_Model_writesWeight.1 _ (by simp)) (Nat.le_of_ble_eq_true rfl) (fun cx hA hg => t_Model_writesWeight_0 hg hA v1 μ)
theorem t_Model_writesEdge_J36 {cx : HCx} (hg : HGood cx R_Model b_Model_writesEdge 4 3 none) (hA : h_own cx)    (μ : HMem) : HX cx (HQ cx h_eV) (f_Model_writesEdge_J36   μ) 0 0 36 [] [] μ := by
  unfold f_Model_writesEdge_J36
  exact r_vret hg hA rfl d_Model_writesEdge_36 rfl
theorem t_Model_writesEdge_0 {cx : HCx} (hg : HGood cx R_Model b_Model_writesEdge 4 3 none) (hA : h_own cx) (v1 : Int32) (v2 : Int32) (v3 : Int32) (μ : HMem) : HX cx (HQ cx h_eV) (f_Model_writesEdge v1 v2 v3 μ) 0 0 0 [(0, .ref 125), (1, .int v1), (2, .int v2), (3, .int v3)] [] μ := by
  unfold f_Model_writesEdge
  refine r_iload_n hg 3 d_Model_writesEdge_0 rfl rfl ?_
  refine r_if_eq (tgt := 36) hg d_Model_writesEdge_1 (by decide) ?_ ?_
  · refine r_sub [] rfl ?_
    exact t_Model_writesEdge_J36 hg hA μ
  · refine r_aload_n hg 0 d_Model_writesEdge_4 rfl rfl ?_
    refine r_bipush (v := 59) hg d_Model_writesEdge_5 (by decide) ?_
    refine r_callV (As := [.int 59]) hg (t_Model_writes 59 μ) v_Model_writes c_Model rfl (by decide) rfl wm_Model_317 d_Model_writesEdge_7 rfl ⟨by decide, by decide⟩ (Nat.le_of_ble_eq_true rfl) rfl (fun r7 μ_7 _ => ?_)
    refine r_aload_n hg 0 d_Model_writesEdge_10 rfl rfl ?_
    refine r_bipush (v := 48) hg d_Model_writesEdge_11 (by decide) ?_
    refine r_iload_n hg 1 d_Model_writesEdge_13 rfl rfl ?_
    refine r_iadd hg d_Model_writesEdge_14 ?_
    refine r_callV (As := [.int (48 + v1)]) hg (t_Model_writes (48 + v1) μ_7) v_Model_writes c_Model rfl (by decide) rfl wm_Model_317 d_Model_writesEdge_15 rfl ⟨by decide, by decide⟩ (Nat.le_of_ble_eq_true rfl) rfl (fun r15 μ_15 _ => ?_)
    refine r_aload_n hg 0 d_Model_writesEdge_18 rfl rfl ?_
    refine r_bipush (v := 48) hg d_Model_writesEdge_19 (by decide) ?_
    refine r_iload_n hg 2 d_Model_writesEdge_21 rfl rfl ?_
    refine r_iadd hg d_Model_writesEdge_22 ?_
    refine r_callV (As := [.int (48 + v2)]) hg (t_Model_writes (48 + v2) μ_15) v_Model_writes c_Model rfl (by decide) rfl wm_Model_317 d_Model_writesEdge_23 rfl ⟨by decide, by decide⟩ (Nat.le_of_ble_eq_true rfl) rfl (fun r23 μ_23 _ => ?_)
    refine r_iload_n hg 3 d_Model_writesEdge_26 rfl rfl ?_
    refine r_iconst (v := 1) hg d_Model_writesEdge_27 (by decide) ?_
    refine r_icmp_eq (tgt := 36) hg d_Model_writesEdge_28 (by decide) ?_ ?_
    · refine r_sub [] rfl ?_
      exact t_Model_writesEdge_J36 hg hA μ_23
    · refine r_aload_n hg 0 d_Model_writesEdge_31 rfl rfl ?_
      refine r_iload_n hg 3 d_Model_writesEdge_32 rfl rfl ?_
      refine r_callV (As := [.int v3]) hg (t_Model_writesWeight v3 μ_23) v_Model_writesWeight c_Model rfl (by decide) rfl wm_Model_320 d_Model_writesEdge_33 rfl ⟨by decide, by decide⟩ (Nat.le_of_ble_eq_true rfl) rfl (fun r33 μ_33 _ => ?_)
      refine r_sub [] rfl ?_
      exact t_Model_writesEdge_J36 hg hA μ_33
theorem t_Model_writesEdge (v1 : Int32) (v2 : Int32) (v3 : Int32) (μ : HMem) : HSpec y_Model_writesEdge b_Model_writesEdge 4 none 3 h_eV [.ref 125, .int v1, .int v2, .int v3] μ (f_Model_writesEdge v1 v2 v3 μ) :=
  HSpec.of (by decide +kernel) (v_Model_writesEdge.1 _ (by simp)) (Nat.le_of_ble_eq_true rfl) (fun cx hA hg => t_Model_writesEdge_0 hg hA v1 v2 v3 μ)
theorem t_Model_writesGraph_J68 {cx : HCx} (hg : HGood cx R_Model b_Model_writesGraph 4 4 none) (hA : h_own cx)  (rec_ : Int32 → Int32 → HMem → Option (Unit × HMem)) (hrec_ : p_Model_writesGraph_19 cx rec_) (v1 : Int32) (v2 : Int32) (μ : HMem) : HX cx (HQ cx h_eV) (f_Model_writesGraph_J68  rec_ v1 v2 μ) 0 0 68 [(0, .ref 125), (1, .int v1), (2, .int v2)] [] μ := by
  unfold f_Model_writesGraph_J68
  refine r_letE (fun v2_68 he_68 => ?_)
  refine r_iinc (v := v2_68) (l' := [(2, .int v2_68), (0, .ref 125), (1, .int v1)]) hg 2 d_Model_writesGraph_68 rfl he_68 (Nat.le_of_ble_eq_true rfl) rfl ?_
  refine r_goto (tgt := 19) hg d_Model_writesGraph_71 (by decide) ?_
  refine r_sub [1, 2, 0] rfl ?_
  exact hrec_ v1 v2_68 μ
theorem t_Model_writesGraph_L19_b {cx : HCx} (hg : HGood cx R_Model b_Model_writesGraph 4 4 none) (hA : h_own cx) (K74 : Int32 → HMem → Option (Unit × HMem)) (hK74 : p_Model_writesGraph_74 cx K74) (rec_ : Int32 → Int32 → HMem → Option (Unit × HMem)) (hrec_ : p_Model_writesGraph_19 cx rec_) (v1 : Int32) (v2 : Int32) (μ : HMem) : HX cx (HQ cx h_eV) (f_Model_writesGraph_L19_b K74 rec_ v1 v2 μ) 0 0 19 [(0, .ref 125), (1, .int v1), (2, .int v2)] [] μ := by
  unfold f_Model_writesGraph_L19_b
  refine r_iload_n hg 2 d_Model_writesGraph_19 rfl rfl ?_
  refine r_aload_n hg 0 d_Model_writesGraph_20 rfl rfl ?_
  refine r_iload_n hg 1 d_Model_writesGraph_21 rfl rfl ?_
  refine r_callV (As := [.int v1]) hg (t_Model_size v1 μ) v_Model_size c_Model rfl (by decide) rfl wm_Model_75 d_Model_writesGraph_22 rfl ⟨by decide, by decide⟩ (Nat.le_of_ble_eq_true rfl) rfl (fun r22 μ_22 _ => ?_)
  refine r_icmp_ge (tgt := 74) hg d_Model_writesGraph_25 (by decide) ?_ ?_
  · refine r_sub [0, 1] rfl ?_
    exact hK74 v1 μ_22
  · refine r_aload_n hg 0 d_Model_writesGraph_28 rfl rfl ?_
    refine r_iload_n hg 1 d_Model_writesGraph_29 rfl rfl ?_
    refine r_iload_n hg 2 d_Model_writesGraph_30 rfl rfl ?_
    refine r_callV (As := [.int v1, .int v2]) hg (t_Model_weight v1 v2 μ_22) v_Model_weight c_Model rfl (by decide) rfl wm_Model_107 d_Model_writesGraph_31 rfl ⟨by decide, by decide⟩ (Nat.le_of_ble_eq_true rfl) rfl (fun r31 μ_31 _ => ?_)
    refine r_iconst (v := 1) hg d_Model_writesGraph_34 (by decide) ?_
    refine r_icmp_eq (tgt := 68) hg d_Model_writesGraph_35 (by decide) ?_ ?_
    · exact t_Model_writesGraph_J68 hg hA rec_ hrec_ v1 v2 μ_31
    · refine r_aload_n hg 0 d_Model_writesGraph_38 rfl rfl ?_
      refine r_bipush (v := 59) hg d_Model_writesGraph_39 (by decide) ?_
      refine r_callV (As := [.int 59]) hg (t_Model_writes 59 μ_31) v_Model_writes c_Model rfl (by decide) rfl wm_Model_317 d_Model_writesGraph_41 rfl ⟨by decide, by decide⟩ (Nat.le_of_ble_eq_true rfl) rfl (fun r41 μ_41 _ => ?_)
      refine r_aload_n hg 0 d_Model_writesGraph_44 rfl rfl ?_
      refine r_bipush (v := 118) hg d_Model_writesGraph_45 (by decide) ?_
      refine r_callV (As := [.int 118]) hg (t_Model_writes 118 μ_41) v_Model_writes c_Model rfl (by decide) rfl wm_Model_317 d_Model_writesGraph_47 rfl ⟨by decide, by decide⟩ (Nat.le_of_ble_eq_true rfl) rfl (fun r47 μ_47 _ => ?_)
      refine r_aload_n hg 0 d_Model_writesGraph_50 rfl rfl ?_
      refine r_bipush (v := 48) hg d_Model_writesGraph_51 (by decide) ?_
      refine r_iload_n hg 2 d_Model_writesGraph_53 rfl rfl ?_
      refine r_iadd hg d_Model_writesGraph_54 ?_
      refine r_callV (As := [.int (48 + v2)]) hg (t_Model_writes (48 + v2) μ_47) v_Model_writes c_Model rfl (by decide) rfl wm_Model_317 d_Model_writesGraph_55 rfl ⟨by decide, by decide⟩ (Nat.le_of_ble_eq_true rfl) rfl (fun r55 μ_55 _ => ?_)
      refine r_aload_n hg 0 d_Model_writesGraph_58 rfl rfl ?_
      refine r_aload_n hg 0 d_Model_writesGraph_59 rfl rfl ?_
      refine r_iload_n hg 1 d_Model_writesGraph_60 rfl rfl ?_
      refine r_iload_n hg 2 d_Model_writesGraph_61 rfl rfl ?_
      refine r_callV (As := [.int v1, .int v2]) hg (t_Model_weight v1 v2 μ_55) v_Model_weight c_Model rfl (by decide) rfl wm_Model_107 d_Model_writesGraph_62 rfl ⟨by decide, by decide⟩ (Nat.le_of_ble_eq_true rfl) rfl (fun r62 μ_62 _ => ?_)
      refine r_callV (As := [.int r62]) hg (t_Model_writesWeight r62 μ_62) v_Model_writesWeight c_Model rfl (by decide) rfl wm_Model_320 d_Model_writesGraph_65 rfl ⟨by decide, by decide⟩ (Nat.le_of_ble_eq_true rfl) rfl (fun r65 μ_65 _ => ?_)
      exact t_Model_writesGraph_J68 hg hA rec_ hrec_ v1 v2 μ_65
theorem t_Model_writesGraph_L19 {cx : HCx} (hg : HGood cx R_Model b_Model_writesGraph 4 4 none) (hA : h_own cx) (K74 : Int32 → HMem → Option (Unit × HMem)) (hK74 : p_Model_writesGraph_74 cx K74) : ∀ (fuel : Nat) (v1 : Int32) (v2 : Int32) (μ : HMem), HX cx (HQ cx h_eV) (f_Model_writesGraph_L19 K74 fuel v1 v2 μ) 0 0 19 [(0, .ref 125), (1, .int v1), (2, .int v2)] [] μ
  | 0, _, _, _ => by unfold f_Model_writesGraph_L19; exact HX.none
  | fuel + 1, v1, v2, μ => by
    rw [f_Model_writesGraph_L19]
    exact t_Model_writesGraph_L19_b hg hA  K74 hK74 (f_Model_writesGraph_L19 K74 fuel) (t_Model_writesGraph_L19 hg hA  K74 hK74 fuel) v1 v2 μ
theorem t_Model_writesGraph_L87_b {cx : HCx} (hg : HGood cx R_Model b_Model_writesGraph 4 4 none) (hA : h_own cx) (K115 : Int32 → Int32 → HMem → Option (Unit × HMem)) (hK115 : p_Model_writesGraph_115 cx K115) (rec_ : Int32 → Int32 → Int32 → HMem → Option (Unit × HMem)) (hrec_ : p_Model_writesGraph_87 cx rec_) (v1 : Int32) (v2 : Int32) (v3 : Int32) (μ : HMem) : HX cx (HQ cx h_eV) (f_Model_writesGraph_L87_b K115 rec_ v1 v2 v3 μ) 0 0 87 [(0, .ref 125), (1, .int v1), (2, .int v2), (3, .int v3)] [] μ := by
  unfold f_Model_writesGraph_L87_b
  refine r_iload_n hg 3 d_Model_writesGraph_87 rfl rfl ?_
  refine r_aload_n hg 0 d_Model_writesGraph_88 rfl rfl ?_
  refine r_iload_n hg 1 d_Model_writesGraph_89 rfl rfl ?_
  refine r_callV (As := [.int v1]) hg (t_Model_size v1 μ) v_Model_size c_Model rfl (by decide) rfl wm_Model_75 d_Model_writesGraph_90 rfl ⟨by decide, by decide⟩ (Nat.le_of_ble_eq_true rfl) rfl (fun r90 μ_90 _ => ?_)
  refine r_icmp_ge (tgt := 115) hg d_Model_writesGraph_93 (by decide) ?_ ?_
  · refine r_sub [0, 1, 2] rfl ?_
    exact hK115 v1 v2 μ_90
  · refine r_aload_n hg 0 d_Model_writesGraph_96 rfl rfl ?_
    refine r_iload_n hg 2 d_Model_writesGraph_97 rfl rfl ?_
    refine r_iload_n hg 3 d_Model_writesGraph_98 rfl rfl ?_
    refine r_aload_n hg 0 d_Model_writesGraph_99 rfl rfl ?_
    refine r_iload_n hg 1 d_Model_writesGraph_100 rfl rfl ?_
    refine r_iload_n hg 2 d_Model_writesGraph_101 rfl rfl ?_
    refine r_iload_n hg 3 d_Model_writesGraph_102 rfl rfl ?_
    refine r_callV (As := [.int v1, .int v2, .int v3]) hg (t_Model_between v1 v2 v3 μ_90) v_Model_between c_Model rfl (by decide) rfl wm_Model_79 d_Model_writesGraph_103 rfl ⟨by decide, by decide⟩ (Nat.le_of_ble_eq_true rfl) rfl (fun r103 μ_103 _ => ?_)
    refine r_callV (As := [.int v2, .int v3, .int r103]) hg (t_Model_writesEdge v2 v3 r103 μ_103) v_Model_writesEdge c_Model rfl (by decide) rfl wm_Model_323 d_Model_writesGraph_106 rfl ⟨by decide, by decide⟩ (Nat.le_of_ble_eq_true rfl) rfl (fun r106 μ_106 _ => ?_)
    refine r_letE (fun v3_109 he_109 => ?_)
    refine r_iinc (v := v3_109) (l' := [(3, .int v3_109), (0, .ref 125), (1, .int v1), (2, .int v2)]) hg 3 d_Model_writesGraph_109 rfl he_109 (Nat.le_of_ble_eq_true rfl) rfl ?_
    refine r_goto (tgt := 87) hg d_Model_writesGraph_112 (by decide) ?_
    refine r_sub [1, 2, 3, 0] rfl ?_
    exact hrec_ v1 v2 v3_109 μ_106
theorem t_Model_writesGraph_L87 {cx : HCx} (hg : HGood cx R_Model b_Model_writesGraph 4 4 none) (hA : h_own cx) (K115 : Int32 → Int32 → HMem → Option (Unit × HMem)) (hK115 : p_Model_writesGraph_115 cx K115) : ∀ (fuel : Nat) (v1 : Int32) (v2 : Int32) (v3 : Int32) (μ : HMem), HX cx (HQ cx h_eV) (f_Model_writesGraph_L87 K115 fuel v1 v2 v3 μ) 0 0 87 [(0, .ref 125), (1, .int v1), (2, .int v2), (3, .int v3)] [] μ
  | 0, _, _, _, _ => by unfold f_Model_writesGraph_L87; exact HX.none
  | fuel + 1, v1, v2, v3, μ => by
    rw [f_Model_writesGraph_L87]
    exact t_Model_writesGraph_L87_b hg hA  K115 hK115 (f_Model_writesGraph_L87 K115 fuel) (t_Model_writesGraph_L87 hg hA  K115 hK115 fuel) v1 v2 v3 μ
theorem t_Model_writesGraph_J115 {cx : HCx} (hg : HGood cx R_Model b_Model_writesGraph 4 4 none) (hA : h_own cx)  (rec_ : Int32 → Int32 → HMem → Option (Unit × HMem)) (hrec_ : p_Model_writesGraph_76 cx rec_) (v1 : Int32) (v2 : Int32) (μ : HMem) : HX cx (HQ cx h_eV) (f_Model_writesGraph_J115  rec_ v1 v2 μ) 0 0 115 [(0, .ref 125), (1, .int v1), (2, .int v2)] [] μ := by
  unfold f_Model_writesGraph_J115
  refine r_letE (fun v2_115 he_115 => ?_)
  refine r_iinc (v := v2_115) (l' := [(2, .int v2_115), (0, .ref 125), (1, .int v1)]) hg 2 d_Model_writesGraph_115 rfl he_115 (Nat.le_of_ble_eq_true rfl) rfl ?_
  refine r_goto (tgt := 76) hg d_Model_writesGraph_118 (by decide) ?_
  refine r_sub [1, 2, 0] rfl ?_
  exact hrec_ v1 v2_115 μ
theorem t_Model_writesGraph_L76_b {cx : HCx} (hg : HGood cx R_Model b_Model_writesGraph 4 4 none) (hA : h_own cx)  (rec_ : Int32 → Int32 → HMem → Option (Unit × HMem)) (hrec_ : p_Model_writesGraph_76 cx rec_) (v1 : Int32) (v2 : Int32) (μ : HMem) : HX cx (HQ cx h_eV) (f_Model_writesGraph_L76_b  rec_ v1 v2 μ) 0 0 76 [(0, .ref 125), (1, .int v1), (2, .int v2)] [] μ := by
  unfold f_Model_writesGraph_L76_b
  refine r_iload_n hg 2 d_Model_writesGraph_76 rfl rfl ?_
  refine r_aload_n hg 0 d_Model_writesGraph_77 rfl rfl ?_
  refine r_iload_n hg 1 d_Model_writesGraph_78 rfl rfl ?_
  refine r_callV (As := [.int v1]) hg (t_Model_size v1 μ) v_Model_size c_Model rfl (by decide) rfl wm_Model_75 d_Model_writesGraph_79 rfl ⟨by decide, by decide⟩ (Nat.le_of_ble_eq_true rfl) rfl (fun r79 μ_79 _ => ?_)
  refine r_icmp_ge (tgt := 121) hg d_Model_writesGraph_82 (by decide) ?_ ?_
  · exact r_vret hg hA rfl d_Model_writesGraph_121 rfl
  · refine r_iload_n hg 2 d_Model_writesGraph_85 rfl rfl ?_
    refine r_istore_n (l' := [(3, .int v2), (0, .ref 125), (1, .int v1), (2, .int v2)]) hg d_Model_writesGraph_86 rfl (Nat.le_of_ble_eq_true rfl) rfl ?_
    refine r_sub [1, 2, 3, 0] rfl ?_
    exact t_Model_writesGraph_L87 hg hA (f_Model_writesGraph_J115 rec_) (t_Model_writesGraph_J115 hg hA rec_ hrec_) h_fuel v1 v2 v2 μ_79
theorem t_Model_writesGraph_L76 {cx : HCx} (hg : HGood cx R_Model b_Model_writesGraph 4 4 none) (hA : h_own cx)  : ∀ (fuel : Nat) (v1 : Int32) (v2 : Int32) (μ : HMem), HX cx (HQ cx h_eV) (f_Model_writesGraph_L76  fuel v1 v2 μ) 0 0 76 [(0, .ref 125), (1, .int v1), (2, .int v2)] [] μ
  | 0, _, _, _ => by unfold f_Model_writesGraph_L76; exact HX.none
  | fuel + 1, v1, v2, μ => by
    rw [f_Model_writesGraph_L76]
    exact t_Model_writesGraph_L76_b hg hA   (f_Model_writesGraph_L76  fuel) (t_Model_writesGraph_L76 hg hA   fuel) v1 v2 μ
theorem t_Model_writesGraph_J74 {cx : HCx} (hg : HGood cx R_Model b_Model_writesGraph 4 4 none) (hA : h_own cx)   (v1 : Int32) (μ : HMem) : HX cx (HQ cx h_eV) (f_Model_writesGraph_J74   v1 μ) 0 0 74 [(0, .ref 125), (1, .int v1)] [] μ := by
  unfold f_Model_writesGraph_J74
  refine r_iconst (v := 0) hg d_Model_writesGraph_74 (by decide) ?_
  refine r_istore_n (l' := [(2, .int 0), (0, .ref 125), (1, .int v1)]) hg d_Model_writesGraph_75 rfl (Nat.le_of_ble_eq_true rfl) rfl ?_
  refine r_sub [1, 2, 0] rfl ?_
  exact t_Model_writesGraph_L76 hg hA h_fuel v1 0 μ
theorem t_Model_writesGraph_0 {cx : HCx} (hg : HGood cx R_Model b_Model_writesGraph 4 4 none) (hA : h_own cx) (v1 : Int32) (μ : HMem) : HX cx (HQ cx h_eV) (f_Model_writesGraph v1 μ) 0 0 0 [(0, .ref 125), (1, .int v1)] [] μ := by
  unfold f_Model_writesGraph
  refine r_aload_n hg 0 d_Model_writesGraph_0 rfl rfl ?_
  refine r_iconst (v := 0) hg d_Model_writesGraph_1 (by decide) ?_
  refine r_put hg c_Model t_Model_ok n_Model (by decide) rfl (Nat.le_of_ble_eq_true rfl) rfl rfl (by decide +kernel) wf_Model_314 d_Model_writesGraph_2 ?_
  refine r_letM (fun μ_2 => ?_)
  refine r_aload_n hg 0 d_Model_writesGraph_5 rfl rfl ?_
  refine r_bipush (v := 48) hg d_Model_writesGraph_6 (by decide) ?_
  refine r_aload_n hg 0 d_Model_writesGraph_8 rfl rfl ?_
  refine r_iload_n hg 1 d_Model_writesGraph_9 rfl rfl ?_
  refine r_callV (As := [.int v1]) hg (t_Model_size v1 μ_2) v_Model_size c_Model rfl (by decide) rfl wm_Model_75 d_Model_writesGraph_10 rfl ⟨by decide, by decide⟩ (Nat.le_of_ble_eq_true rfl) rfl (fun r10 μ_10 _ => ?_)
  refine r_iadd hg d_Model_writesGraph_13 ?_
  refine r_callV (As := [.int (48 + r10)]) hg (t_Model_writes (48 + r10) μ_10) v_Model_writes c_Model rfl (by decide) rfl wm_Model_317 d_Model_writesGraph_14 rfl ⟨by decide, by decide⟩ (Nat.le_of_ble_eq_true rfl) rfl (fun r14 μ_14 _ => ?_)
  refine r_iconst (v := 0) hg d_Model_writesGraph_17 (by decide) ?_
  refine r_istore_n (l' := [(2, .int 0), (0, .ref 125), (1, .int v1)]) hg d_Model_writesGraph_18 rfl (Nat.le_of_ble_eq_true rfl) rfl ?_
  refine r_sub [1, 2, 0] rfl ?_
  exact t_Model_writesGraph_L19 hg hA f_Model_writesGraph_J74 (t_Model_writesGraph_J74 hg hA) h_fuel v1 0 μ_14
theorem t_Model_writesGraph (v1 : Int32) (μ : HMem) : HSpec y_Model_writesGraph b_Model_writesGraph 4 none 4 h_eV [.ref 125, .int v1] μ (f_Model_writesGraph v1 μ) :=
  HSpec.of (by decide +kernel) (v_Model_writesGraph.1 _ (by simp)) (Nat.le_of_ble_eq_true rfl) (fun cx hA hg => t_Model_writesGraph_0 hg hA v1 μ)
theorem t_Model_written_J47 {cx : HCx} (hg : HGood cx R_Model b_Model_written 3 5 (some .int)) (hA : h_own cx)   (s0 : Int32) (μ : HMem) : HX cx (HQ cx h_eI) (f_Model_written_J47   s0 μ) 0 0 47 [] [.int s0, .ref 125] μ := by
  unfold f_Model_written_J47
  refine r_callV (As := [.int s0]) hg (t_Model_tells s0 μ) v_Model_tells c_Model rfl (by decide) rfl wm_Model_171 d_Model_written_47 rfl ⟨by decide, by decide⟩ (Nat.le_of_ble_eq_true rfl) rfl (fun r47 μ_47 _ => ?_)
  exact r_iret hg hA rfl d_Model_written_50 rfl
theorem t_Model_written_0 {cx : HCx} (hg : HGood cx R_Model b_Model_written 3 5 (some .int)) (hA : h_own cx) (v1 : Int32) (v2 : Int32) (μ : HMem) : HX cx (HQ cx h_eI) (f_Model_written v1 v2 μ) 0 0 0 [(0, .ref 125), (1, .int v1), (2, .int v2)] [] μ := by
  unfold f_Model_written
  refine r_iload_n hg 1 d_Model_written_0 rfl rfl ?_
  refine r_callS (As := [.int v1]) hg (t_Model_isGraph v1 μ) v_Model_isGraph wm_Model_71 d_Model_written_1 rfl ⟨by decide, by decide⟩ (Nat.le_of_ble_eq_true rfl) rfl (fun r1 μ_1 _ => ?_)
  refine r_if_ne (tgt := 13) hg d_Model_written_4 (by decide) ?_ ?_
  · refine r_iload_n hg 2 d_Model_written_13 rfl rfl ?_
    refine r_if_ge (tgt := 23) hg d_Model_written_14 (by decide) ?_ ?_
    · refine r_aload_n hg 0 d_Model_written_23 rfl rfl ?_
      refine r_iload_n hg 1 d_Model_written_24 rfl rfl ?_
      refine r_callV (As := [.int v1]) hg (t_Model_writesGraph v1 μ_1) v_Model_writesGraph c_Model rfl (by decide) rfl wm_Model_326 d_Model_written_25 rfl ⟨by decide, by decide⟩ (Nat.le_of_ble_eq_true rfl) rfl (fun r25 μ_25 _ => ?_)
      refine r_aload_n hg 0 d_Model_written_28 rfl rfl ?_
      refine r_iload_n hg 2 d_Model_written_29 rfl rfl ?_
      refine r_aload_n hg 0 d_Model_written_30 rfl rfl ?_
      refine r_get (v := .int (μ_25.1 125 24)) hg c_Model (by decide) rfl (Nat.le_of_ble_eq_true rfl) rfl wf_Model_314 d_Model_written_31 rfl ?_
      refine r_icmp_ge (tgt := 46) hg d_Model_written_34 (by decide) ?_ ?_
      · refine r_iconst (v := -1) hg d_Model_written_46 (by decide) ?_
        refine r_sub [] rfl ?_
        exact t_Model_written_J47 hg hA (-1) μ_25
      · refine r_aload_n hg 0 d_Model_written_37 rfl rfl ?_
        refine r_get (v := .ref 142) hg c_Model (by decide) rfl (Nat.le_of_ble_eq_true rfl) rfl wf_Model_60 d_Model_written_38 rfl ?_
        refine r_iload_n hg 2 d_Model_written_41 rfl rfl ?_
        refine r_iald hg (by decide) rfl d_Model_written_42 ?_
        refine r_goto (tgt := 47) hg d_Model_written_43 (by decide) ?_
        refine r_sub [] rfl ?_
        exact t_Model_written_J47 hg hA (μ_25.1 142 (Int32.toNatClampNeg (v2))) μ_25
    · refine r_aload_n hg 0 d_Model_written_17 rfl rfl ?_
      refine r_iconst (v := 2) hg d_Model_written_18 (by decide) ?_
      refine r_callV (As := [.int 2]) hg (t_Model_fails 2 μ_1) v_Model_fails c_Model rfl (by decide) rfl wm_Model_93 d_Model_written_19 rfl ⟨by decide, by decide⟩ (Nat.le_of_ble_eq_true rfl) rfl (fun r19 μ_19 _ => ?_)
      exact r_iret hg hA rfl d_Model_written_22 rfl
  · refine r_aload_n hg 0 d_Model_written_7 rfl rfl ?_
    refine r_iconst (v := 1) hg d_Model_written_8 (by decide) ?_
    refine r_callV (As := [.int 1]) hg (t_Model_fails 1 μ_1) v_Model_fails c_Model rfl (by decide) rfl wm_Model_93 d_Model_written_9 rfl ⟨by decide, by decide⟩ (Nat.le_of_ble_eq_true rfl) rfl (fun r9 μ_9 _ => ?_)
    exact r_iret hg hA rfl d_Model_written_12 rfl
theorem t_Model_written (v1 : Int32) (v2 : Int32) (μ : HMem) : HSpec y_Model_written b_Model_written 3 (some .int) 5 h_eI [.ref 125, .int v1, .int v2] μ (f_Model_written v1 v2 μ) :=
  HSpec.of (by decide +kernel) (v_Model_written.1 _ (by simp)) (Nat.le_of_ble_eq_true rfl) (fun cx hA hg => t_Model_written_0 hg hA v1 v2 μ)
theorem t_Model_undo_L25_b {cx : HCx} (hg : HGood cx R_Model b_Model_undo 2 2 (some .int)) (hA : h_own cx) (K59 : HMem → Option (Int32 × HMem)) (hK59 : p_Model_undo_59 cx K59) (rec_ : Int32 → HMem → Option (Int32 × HMem)) (hrec_ : p_Model_undo_25 cx rec_) (v1 : Int32) (μ : HMem) : HX cx (HQ cx h_eI) (f_Model_undo_L25_b K59 rec_ v1 μ) 0 0 25 [(0, .ref 125), (1, .int v1)] [] μ := by
  unfold f_Model_undo_L25_b
  refine r_iload_n hg 1 d_Model_undo_25 rfl rfl ?_
  refine r_sipush (v := 292) hg d_Model_undo_26 (by decide) ?_
  refine r_icmp_ge (tgt := 59) hg d_Model_undo_29 (by decide) ?_ ?_
  · refine r_sub [0] rfl ?_
    exact hK59 μ
  · refine r_aload_n hg 0 d_Model_undo_32 rfl rfl ?_
    refine r_get (v := .ref 126) hg c_Model (by decide) rfl (Nat.le_of_ble_eq_true rfl) rfl wf_Model_7 d_Model_undo_33 rfl ?_
    refine r_iload_n hg 1 d_Model_undo_36 rfl rfl ?_
    refine r_aload_n hg 0 d_Model_undo_37 rfl rfl ?_
    refine r_get (v := .ref 127) hg c_Model (by decide) rfl (Nat.le_of_ble_eq_true rfl) rfl wf_Model_13 d_Model_undo_38 rfl ?_
    refine r_sipush (v := 292) hg d_Model_undo_41 (by decide) ?_
    refine r_aload_n hg 0 d_Model_undo_44 rfl rfl ?_
    refine r_get (v := .int (μ.1 125 2)) hg c_Model (by decide) rfl (Nat.le_of_ble_eq_true rfl) rfl wf_Model_83 d_Model_undo_45 rfl ?_
    refine r_imul hg d_Model_undo_48 ?_
    refine r_iload_n hg 1 d_Model_undo_49 rfl rfl ?_
    refine r_iadd hg d_Model_undo_50 ?_
    refine r_iald hg (by decide) rfl d_Model_undo_51 ?_
    refine r_iast hg (by decide) rfl d_Model_undo_52 ?_
    refine r_letM (fun μ_52 => ?_)
    refine r_letE (fun v1_53 he_53 => ?_)
    refine r_iinc (v := v1_53) (l' := [(1, .int v1_53), (0, .ref 125)]) hg 1 d_Model_undo_53 rfl he_53 (Nat.le_of_ble_eq_true rfl) rfl ?_
    refine r_goto (tgt := 25) hg d_Model_undo_56 (by decide) ?_
    refine r_sub [1, 0] rfl ?_
    exact hrec_ v1_53 μ_52
theorem t_Model_undo_L25 {cx : HCx} (hg : HGood cx R_Model b_Model_undo 2 2 (some .int)) (hA : h_own cx) (K59 : HMem → Option (Int32 × HMem)) (hK59 : p_Model_undo_59 cx K59) : ∀ (fuel : Nat) (v1 : Int32) (μ : HMem), HX cx (HQ cx h_eI) (f_Model_undo_L25 K59 fuel v1 μ) 0 0 25 [(0, .ref 125), (1, .int v1)] [] μ
  | 0, _, _ => by unfold f_Model_undo_L25; exact HX.none
  | fuel + 1, v1, μ => by
    rw [f_Model_undo_L25]
    exact t_Model_undo_L25_b hg hA  K59 hK59 (f_Model_undo_L25 K59 fuel) (t_Model_undo_L25 hg hA  K59 hK59 fuel) v1 μ
theorem t_Model_undo_J59 {cx : HCx} (hg : HGood cx R_Model b_Model_undo 2 2 (some .int)) (hA : h_own cx)    (μ : HMem) : HX cx (HQ cx h_eI) (f_Model_undo_J59   μ) 0 0 59 [(0, .ref 125)] [] μ := by
  unfold f_Model_undo_J59
  refine r_aload_n hg 0 d_Model_undo_59 rfl rfl ?_
  refine r_aload_n hg 0 d_Model_undo_60 rfl rfl ?_
  refine r_get (v := .int (μ.1 125 2)) hg c_Model (by decide) rfl (Nat.le_of_ble_eq_true rfl) rfl wf_Model_83 d_Model_undo_61 rfl ?_
  refine r_callV (As := [.int (μ.1 125 2)]) hg (t_Model_tells (μ.1 125 2) μ) v_Model_tells c_Model rfl (by decide) rfl wm_Model_171 d_Model_undo_64 rfl ⟨by decide, by decide⟩ (Nat.le_of_ble_eq_true rfl) rfl (fun r64 μ_64 _ => ?_)
  exact r_iret hg hA rfl d_Model_undo_67 rfl
theorem t_Model_undo_0 {cx : HCx} (hg : HGood cx R_Model b_Model_undo 2 2 (some .int)) (hA : h_own cx)  (μ : HMem) : HX cx (HQ cx h_eI) (f_Model_undo μ) 0 0 0 [(0, .ref 125)] [] μ := by
  unfold f_Model_undo
  refine r_aload_n hg 0 d_Model_undo_0 rfl rfl ?_
  refine r_get (v := .int (μ.1 125 2)) hg c_Model (by decide) rfl (Nat.le_of_ble_eq_true rfl) rfl wf_Model_83 d_Model_undo_1 rfl ?_
  refine r_if_ne (tgt := 13) hg d_Model_undo_4 (by decide) ?_ ?_
  · refine r_aload_n hg 0 d_Model_undo_13 rfl rfl ?_
    refine r_dup hg d_Model_undo_14 rfl ?_
    refine r_get (v := .int (μ.1 125 2)) hg c_Model (by decide) rfl (Nat.le_of_ble_eq_true rfl) rfl wf_Model_83 d_Model_undo_15 rfl ?_
    refine r_iconst (v := 1) hg d_Model_undo_18 (by decide) ?_
    refine r_isub hg d_Model_undo_19 ?_
    refine r_put hg c_Model t_Model_ok n_Model (by decide) rfl (Nat.le_of_ble_eq_true rfl) rfl rfl (by decide +kernel) wf_Model_83 d_Model_undo_20 ?_
    refine r_letM (fun μ_20 => ?_)
    refine r_iconst (v := 0) hg d_Model_undo_23 (by decide) ?_
    refine r_istore_n (l' := [(1, .int 0), (0, .ref 125)]) hg d_Model_undo_24 rfl (Nat.le_of_ble_eq_true rfl) rfl ?_
    refine r_sub [1, 0] rfl ?_
    exact t_Model_undo_L25 hg hA f_Model_undo_J59 (t_Model_undo_J59 hg hA) h_fuel 0 μ_20
  · refine r_aload_n hg 0 d_Model_undo_7 rfl rfl ?_
    refine r_iconst (v := 1) hg d_Model_undo_8 (by decide) ?_
    refine r_callV (As := [.int 1]) hg (t_Model_fails 1 μ) v_Model_fails c_Model rfl (by decide) rfl wm_Model_93 d_Model_undo_9 rfl ⟨by decide, by decide⟩ (Nat.le_of_ble_eq_true rfl) rfl (fun r9 μ_9 _ => ?_)
    exact r_iret hg hA rfl d_Model_undo_12 rfl
theorem t_Model_undo  (μ : HMem) : HSpec y_Model_undo b_Model_undo 2 (some .int) 2 h_eI [.ref 125] μ (f_Model_undo μ) :=
  HSpec.of (by decide +kernel) (v_Model_undo.1 _ (by simp)) (Nat.le_of_ble_eq_true rfl) (fun cx hA hg => t_Model_undo_0 hg hA  μ)
theorem t_Model_mix_0 {cx : HCx} (hg : HGood cx R_Model b_Model_mix 3 1 none) (hA : h_own cx) (v1 : Int64) (μ : HMem) : HX cx (HQ cx h_eV) (f_Model_mix v1 μ) 0 0 0 [(0, .ref 125), (1, .long v1)] [] μ := by
  unfold f_Model_mix
  refine r_aload_n hg 0 d_Model_mix_0 rfl rfl ?_
  refine r_ldc2 hg wc_Model_329 d_Model_mix_1 ?_
  refine r_aload_n hg 0 d_Model_mix_4 rfl rfl ?_
  refine r_get (v := .long (μ.2 125 25)) hg c_Model (by decide) rfl (Nat.le_of_ble_eq_true rfl) rfl wf_Model_331 d_Model_mix_5 rfl ?_
  refine r_lmul hg d_Model_mix_8 ?_
  refine r_lload_n hg 1 d_Model_mix_9 rfl rfl ?_
  refine r_ladd hg d_Model_mix_10 ?_
  refine r_putJ hg c_Model t_Model_ok n_Model (by decide) rfl (Nat.le_of_ble_eq_true rfl) rfl rfl (by decide +kernel) wf_Model_331 d_Model_mix_11 ?_
  refine r_letM (fun μ_11 => ?_)
  exact r_vret hg hA rfl d_Model_mix_14 rfl
theorem t_Model_mix (v1 : Int64) (μ : HMem) : HSpec y_Model_mix b_Model_mix 3 none 1 h_eV [.ref 125, .long v1] μ (f_Model_mix v1 μ) :=
  HSpec.of (by decide +kernel) (v_Model_mix.1 _ (by simp)) (Nat.le_of_ble_eq_true rfl) (fun cx hA hg => t_Model_mix_0 hg hA v1 μ)
theorem t_Model_mixGraph_L12_b {cx : HCx} (hg : HGood cx R_Model b_Model_mixGraph 4 10 none) (hA : h_own cx) (K38 : Int32 → HMem → Option (Unit × HMem)) (hK38 : p_Model_mixGraph_38 cx K38) (rec_ : Int32 → Int32 → HMem → Option (Unit × HMem)) (hrec_ : p_Model_mixGraph_12 cx rec_) (v1 : Int32) (v2 : Int32) (μ : HMem) : HX cx (HQ cx h_eV) (f_Model_mixGraph_L12_b K38 rec_ v1 v2 μ) 0 0 12 [(0, .ref 125), (1, .int v1), (2, .int v2)] [] μ := by
  unfold f_Model_mixGraph_L12_b
  refine r_iload_n hg 2 d_Model_mixGraph_12 rfl rfl ?_
  refine r_aload_n hg 0 d_Model_mixGraph_13 rfl rfl ?_
  refine r_iload_n hg 1 d_Model_mixGraph_14 rfl rfl ?_
  refine r_callV (As := [.int v1]) hg (t_Model_size v1 μ) v_Model_size c_Model rfl (by decide) rfl wm_Model_75 d_Model_mixGraph_15 rfl ⟨by decide, by decide⟩ (Nat.le_of_ble_eq_true rfl) rfl (fun r15 μ_15 _ => ?_)
  refine r_icmp_ge (tgt := 38) hg d_Model_mixGraph_18 (by decide) ?_ ?_
  · refine r_sub [0, 1] rfl ?_
    exact hK38 v1 μ_15
  · refine r_aload_n hg 0 d_Model_mixGraph_21 rfl rfl ?_
    refine r_aload_n hg 0 d_Model_mixGraph_22 rfl rfl ?_
    refine r_iload_n hg 1 d_Model_mixGraph_23 rfl rfl ?_
    refine r_iload_n hg 2 d_Model_mixGraph_24 rfl rfl ?_
    refine r_callV (As := [.int v1, .int v2]) hg (t_Model_weight v1 v2 μ_15) v_Model_weight c_Model rfl (by decide) rfl wm_Model_107 d_Model_mixGraph_25 rfl ⟨by decide, by decide⟩ (Nat.le_of_ble_eq_true rfl) rfl (fun r25 μ_25 _ => ?_)
    refine r_i2l hg d_Model_mixGraph_28 ?_
    refine r_callV (As := [.long (Int32.toInt64 r25)]) hg (t_Model_mix (Int32.toInt64 r25) μ_25) v_Model_mix c_Model rfl (by decide) rfl wm_Model_335 d_Model_mixGraph_29 rfl ⟨by decide, by decide⟩ (Nat.le_of_ble_eq_true rfl) rfl (fun r29 μ_29 _ => ?_)
    refine r_letE (fun v2_32 he_32 => ?_)
    refine r_iinc (v := v2_32) (l' := [(2, .int v2_32), (0, .ref 125), (1, .int v1)]) hg 2 d_Model_mixGraph_32 rfl he_32 (Nat.le_of_ble_eq_true rfl) rfl ?_
    refine r_goto (tgt := 12) hg d_Model_mixGraph_35 (by decide) ?_
    refine r_sub [1, 2, 0] rfl ?_
    exact hrec_ v1 v2_32 μ_29
theorem t_Model_mixGraph_L12 {cx : HCx} (hg : HGood cx R_Model b_Model_mixGraph 4 10 none) (hA : h_own cx) (K38 : Int32 → HMem → Option (Unit × HMem)) (hK38 : p_Model_mixGraph_38 cx K38) : ∀ (fuel : Nat) (v1 : Int32) (v2 : Int32) (μ : HMem), HX cx (HQ cx h_eV) (f_Model_mixGraph_L12 K38 fuel v1 v2 μ) 0 0 12 [(0, .ref 125), (1, .int v1), (2, .int v2)] [] μ
  | 0, _, _, _ => by unfold f_Model_mixGraph_L12; exact HX.none
  | fuel + 1, v1, v2, μ => by
    rw [f_Model_mixGraph_L12]
    exact t_Model_mixGraph_L12_b hg hA  K38 hK38 (f_Model_mixGraph_L12 K38 fuel) (t_Model_mixGraph_L12 hg hA  K38 hK38 fuel) v1 v2 μ
theorem t_Model_mixGraph_L51_b {cx : HCx} (hg : HGood cx R_Model b_Model_mixGraph 4 10 none) (hA : h_own cx) (K78 : Int32 → Int32 → HMem → Option (Unit × HMem)) (hK78 : p_Model_mixGraph_78 cx K78) (rec_ : Int32 → Int32 → Int32 → HMem → Option (Unit × HMem)) (hrec_ : p_Model_mixGraph_51 cx rec_) (v1 : Int32) (v2 : Int32) (v3 : Int32) (μ : HMem) : HX cx (HQ cx h_eV) (f_Model_mixGraph_L51_b K78 rec_ v1 v2 v3 μ) 0 0 51 [(0, .ref 125), (1, .int v1), (2, .int v2), (3, .int v3)] [] μ := by
  unfold f_Model_mixGraph_L51_b
  refine r_iload_n hg 3 d_Model_mixGraph_51 rfl rfl ?_
  refine r_aload_n hg 0 d_Model_mixGraph_52 rfl rfl ?_
  refine r_iload_n hg 1 d_Model_mixGraph_53 rfl rfl ?_
  refine r_callV (As := [.int v1]) hg (t_Model_size v1 μ) v_Model_size c_Model rfl (by decide) rfl wm_Model_75 d_Model_mixGraph_54 rfl ⟨by decide, by decide⟩ (Nat.le_of_ble_eq_true rfl) rfl (fun r54 μ_54 _ => ?_)
  refine r_icmp_ge (tgt := 78) hg d_Model_mixGraph_57 (by decide) ?_ ?_
  · refine r_sub [0, 1, 2] rfl ?_
    exact hK78 v1 v2 μ_54
  · refine r_aload_n hg 0 d_Model_mixGraph_60 rfl rfl ?_
    refine r_aload_n hg 0 d_Model_mixGraph_61 rfl rfl ?_
    refine r_iload_n hg 1 d_Model_mixGraph_62 rfl rfl ?_
    refine r_iload_n hg 2 d_Model_mixGraph_63 rfl rfl ?_
    refine r_iload_n hg 3 d_Model_mixGraph_64 rfl rfl ?_
    refine r_callV (As := [.int v1, .int v2, .int v3]) hg (t_Model_between v1 v2 v3 μ_54) v_Model_between c_Model rfl (by decide) rfl wm_Model_79 d_Model_mixGraph_65 rfl ⟨by decide, by decide⟩ (Nat.le_of_ble_eq_true rfl) rfl (fun r65 μ_65 _ => ?_)
    refine r_i2l hg d_Model_mixGraph_68 ?_
    refine r_callV (As := [.long (Int32.toInt64 r65)]) hg (t_Model_mix (Int32.toInt64 r65) μ_65) v_Model_mix c_Model rfl (by decide) rfl wm_Model_335 d_Model_mixGraph_69 rfl ⟨by decide, by decide⟩ (Nat.le_of_ble_eq_true rfl) rfl (fun r69 μ_69 _ => ?_)
    refine r_letE (fun v3_72 he_72 => ?_)
    refine r_iinc (v := v3_72) (l' := [(3, .int v3_72), (0, .ref 125), (1, .int v1), (2, .int v2)]) hg 3 d_Model_mixGraph_72 rfl he_72 (Nat.le_of_ble_eq_true rfl) rfl ?_
    refine r_goto (tgt := 51) hg d_Model_mixGraph_75 (by decide) ?_
    refine r_sub [1, 2, 3, 0] rfl ?_
    exact hrec_ v1 v2 v3_72 μ_69
theorem t_Model_mixGraph_L51 {cx : HCx} (hg : HGood cx R_Model b_Model_mixGraph 4 10 none) (hA : h_own cx) (K78 : Int32 → Int32 → HMem → Option (Unit × HMem)) (hK78 : p_Model_mixGraph_78 cx K78) : ∀ (fuel : Nat) (v1 : Int32) (v2 : Int32) (v3 : Int32) (μ : HMem), HX cx (HQ cx h_eV) (f_Model_mixGraph_L51 K78 fuel v1 v2 v3 μ) 0 0 51 [(0, .ref 125), (1, .int v1), (2, .int v2), (3, .int v3)] [] μ
  | 0, _, _, _, _ => by unfold f_Model_mixGraph_L51; exact HX.none
  | fuel + 1, v1, v2, v3, μ => by
    rw [f_Model_mixGraph_L51]
    exact t_Model_mixGraph_L51_b hg hA  K78 hK78 (f_Model_mixGraph_L51 K78 fuel) (t_Model_mixGraph_L51 hg hA  K78 hK78 fuel) v1 v2 v3 μ
theorem t_Model_mixGraph_J78 {cx : HCx} (hg : HGood cx R_Model b_Model_mixGraph 4 10 none) (hA : h_own cx)  (rec_ : Int32 → Int32 → HMem → Option (Unit × HMem)) (hrec_ : p_Model_mixGraph_40 cx rec_) (v1 : Int32) (v2 : Int32) (μ : HMem) : HX cx (HQ cx h_eV) (f_Model_mixGraph_J78  rec_ v1 v2 μ) 0 0 78 [(0, .ref 125), (1, .int v1), (2, .int v2)] [] μ := by
  unfold f_Model_mixGraph_J78
  refine r_letE (fun v2_78 he_78 => ?_)
  refine r_iinc (v := v2_78) (l' := [(2, .int v2_78), (0, .ref 125), (1, .int v1)]) hg 2 d_Model_mixGraph_78 rfl he_78 (Nat.le_of_ble_eq_true rfl) rfl ?_
  refine r_goto (tgt := 40) hg d_Model_mixGraph_81 (by decide) ?_
  refine r_sub [1, 2, 0] rfl ?_
  exact hrec_ v1 v2_78 μ
theorem t_Model_mixGraph_L40_b {cx : HCx} (hg : HGood cx R_Model b_Model_mixGraph 4 10 none) (hA : h_own cx) (K84 : Int32 → HMem → Option (Unit × HMem)) (hK84 : p_Model_mixGraph_84 cx K84) (rec_ : Int32 → Int32 → HMem → Option (Unit × HMem)) (hrec_ : p_Model_mixGraph_40 cx rec_) (v1 : Int32) (v2 : Int32) (μ : HMem) : HX cx (HQ cx h_eV) (f_Model_mixGraph_L40_b K84 rec_ v1 v2 μ) 0 0 40 [(0, .ref 125), (1, .int v1), (2, .int v2)] [] μ := by
  unfold f_Model_mixGraph_L40_b
  refine r_iload_n hg 2 d_Model_mixGraph_40 rfl rfl ?_
  refine r_aload_n hg 0 d_Model_mixGraph_41 rfl rfl ?_
  refine r_iload_n hg 1 d_Model_mixGraph_42 rfl rfl ?_
  refine r_callV (As := [.int v1]) hg (t_Model_size v1 μ) v_Model_size c_Model rfl (by decide) rfl wm_Model_75 d_Model_mixGraph_43 rfl ⟨by decide, by decide⟩ (Nat.le_of_ble_eq_true rfl) rfl (fun r43 μ_43 _ => ?_)
  refine r_icmp_ge (tgt := 84) hg d_Model_mixGraph_46 (by decide) ?_ ?_
  · refine r_sub [0, 1] rfl ?_
    exact hK84 v1 μ_43
  · refine r_iload_n hg 2 d_Model_mixGraph_49 rfl rfl ?_
    refine r_istore_n (l' := [(3, .int v2), (0, .ref 125), (1, .int v1), (2, .int v2)]) hg d_Model_mixGraph_50 rfl (Nat.le_of_ble_eq_true rfl) rfl ?_
    refine r_sub [1, 2, 3, 0] rfl ?_
    exact t_Model_mixGraph_L51 hg hA (f_Model_mixGraph_J78 rec_) (t_Model_mixGraph_J78 hg hA rec_ hrec_) h_fuel v1 v2 v2 μ_43
theorem t_Model_mixGraph_L40 {cx : HCx} (hg : HGood cx R_Model b_Model_mixGraph 4 10 none) (hA : h_own cx) (K84 : Int32 → HMem → Option (Unit × HMem)) (hK84 : p_Model_mixGraph_84 cx K84) : ∀ (fuel : Nat) (v1 : Int32) (v2 : Int32) (μ : HMem), HX cx (HQ cx h_eV) (f_Model_mixGraph_L40 K84 fuel v1 v2 μ) 0 0 40 [(0, .ref 125), (1, .int v1), (2, .int v2)] [] μ
  | 0, _, _, _ => by unfold f_Model_mixGraph_L40; exact HX.none
  | fuel + 1, v1, v2, μ => by
    rw [f_Model_mixGraph_L40]
    exact t_Model_mixGraph_L40_b hg hA  K84 hK84 (f_Model_mixGraph_L40 K84 fuel) (t_Model_mixGraph_L40 hg hA  K84 hK84 fuel) v1 v2 μ
theorem t_Model_mixGraph_J84 {cx : HCx} (hg : HGood cx R_Model b_Model_mixGraph 4 10 none) (hA : h_own cx)   (v1 : Int32) (μ : HMem) : HX cx (HQ cx h_eV) (f_Model_mixGraph_J84   v1 μ) 0 0 84 [(0, .ref 125), (1, .int v1)] [] μ := by
  unfold f_Model_mixGraph_J84
  refine r_aload_n hg 0 d_Model_mixGraph_84 rfl rfl ?_
  refine r_aload_n hg 0 d_Model_mixGraph_85 rfl rfl ?_
  refine r_iload_n hg 1 d_Model_mixGraph_86 rfl rfl ?_
  refine r_callV (As := [.int v1]) hg (t_Model_treewidthOf v1 μ) v_Model_treewidthOf c_Model rfl (by decide) rfl wm_Model_199 d_Model_mixGraph_87 rfl ⟨by decide, by decide⟩ (Nat.le_of_ble_eq_true rfl) rfl (fun r87 μ_87 _ => ?_)
  refine r_i2l hg d_Model_mixGraph_90 ?_
  refine r_callV (As := [.long (Int32.toInt64 r87)]) hg (t_Model_mix (Int32.toInt64 r87) μ_87) v_Model_mix c_Model rfl (by decide) rfl wm_Model_335 d_Model_mixGraph_91 rfl ⟨by decide, by decide⟩ (Nat.le_of_ble_eq_true rfl) rfl (fun r91 μ_91 _ => ?_)
  refine r_aload_n hg 0 d_Model_mixGraph_94 rfl rfl ?_
  refine r_aload_n hg 0 d_Model_mixGraph_95 rfl rfl ?_
  refine r_iload_n hg 1 d_Model_mixGraph_96 rfl rfl ?_
  refine r_iload_n hg 1 d_Model_mixGraph_97 rfl rfl ?_
  refine r_callV (As := [.int v1, .int v1]) hg (t_Model_bijectionsOf v1 v1 μ_91) v_Model_bijectionsOf c_Model rfl (by decide) rfl wm_Model_250 d_Model_mixGraph_98 rfl ⟨by decide, by decide⟩ (Nat.le_of_ble_eq_true rfl) rfl (fun r98 μ_98 _ => ?_)
  refine r_i2l hg d_Model_mixGraph_101 ?_
  refine r_callV (As := [.long (Int32.toInt64 r98)]) hg (t_Model_mix (Int32.toInt64 r98) μ_98) v_Model_mix c_Model rfl (by decide) rfl wm_Model_335 d_Model_mixGraph_102 rfl ⟨by decide, by decide⟩ (Nat.le_of_ble_eq_true rfl) rfl (fun r102 μ_102 _ => ?_)
  refine r_aload_n hg 0 d_Model_mixGraph_105 rfl rfl ?_
  refine r_aload_n hg 0 d_Model_mixGraph_106 rfl rfl ?_
  refine r_iload_n hg 1 d_Model_mixGraph_107 rfl rfl ?_
  refine r_callV (As := [.int v1]) hg (t_Model_coreOf v1 μ_102) v_Model_coreOf c_Model rfl (by decide) rfl wm_Model_286 d_Model_mixGraph_108 rfl ⟨by decide, by decide⟩ (Nat.le_of_ble_eq_true rfl) rfl (fun r108 μ_108 _ => ?_)
  refine r_i2l hg d_Model_mixGraph_111 ?_
  refine r_callV (As := [.long (Int32.toInt64 r108)]) hg (t_Model_mix (Int32.toInt64 r108) μ_108) v_Model_mix c_Model rfl (by decide) rfl wm_Model_335 d_Model_mixGraph_112 rfl ⟨by decide, by decide⟩ (Nat.le_of_ble_eq_true rfl) rfl (fun r112 μ_112 _ => ?_)
  exact r_vret hg hA rfl d_Model_mixGraph_115 rfl
theorem t_Model_mixGraph_J38 {cx : HCx} (hg : HGood cx R_Model b_Model_mixGraph 4 10 none) (hA : h_own cx)   (v1 : Int32) (μ : HMem) : HX cx (HQ cx h_eV) (f_Model_mixGraph_J38   v1 μ) 0 0 38 [(0, .ref 125), (1, .int v1)] [] μ := by
  unfold f_Model_mixGraph_J38
  refine r_iconst (v := 0) hg d_Model_mixGraph_38 (by decide) ?_
  refine r_istore_n (l' := [(2, .int 0), (0, .ref 125), (1, .int v1)]) hg d_Model_mixGraph_39 rfl (Nat.le_of_ble_eq_true rfl) rfl ?_
  refine r_sub [1, 2, 0] rfl ?_
  exact t_Model_mixGraph_L40 hg hA f_Model_mixGraph_J84 (t_Model_mixGraph_J84 hg hA) h_fuel v1 0 μ
theorem t_Model_mixGraph_0 {cx : HCx} (hg : HGood cx R_Model b_Model_mixGraph 4 10 none) (hA : h_own cx) (v1 : Int32) (μ : HMem) : HX cx (HQ cx h_eV) (f_Model_mixGraph v1 μ) 0 0 0 [(0, .ref 125), (1, .int v1)] [] μ := by
  unfold f_Model_mixGraph
  refine r_aload_n hg 0 d_Model_mixGraph_0 rfl rfl ?_
  refine r_aload_n hg 0 d_Model_mixGraph_1 rfl rfl ?_
  refine r_iload_n hg 1 d_Model_mixGraph_2 rfl rfl ?_
  refine r_callV (As := [.int v1]) hg (t_Model_size v1 μ) v_Model_size c_Model rfl (by decide) rfl wm_Model_75 d_Model_mixGraph_3 rfl ⟨by decide, by decide⟩ (Nat.le_of_ble_eq_true rfl) rfl (fun r3 μ_3 _ => ?_)
  refine r_i2l hg d_Model_mixGraph_6 ?_
  refine r_callV (As := [.long (Int32.toInt64 r3)]) hg (t_Model_mix (Int32.toInt64 r3) μ_3) v_Model_mix c_Model rfl (by decide) rfl wm_Model_335 d_Model_mixGraph_7 rfl ⟨by decide, by decide⟩ (Nat.le_of_ble_eq_true rfl) rfl (fun r7 μ_7 _ => ?_)
  refine r_iconst (v := 0) hg d_Model_mixGraph_10 (by decide) ?_
  refine r_istore_n (l' := [(2, .int 0), (0, .ref 125), (1, .int v1)]) hg d_Model_mixGraph_11 rfl (Nat.le_of_ble_eq_true rfl) rfl ?_
  refine r_sub [1, 2, 0] rfl ?_
  exact t_Model_mixGraph_L12 hg hA f_Model_mixGraph_J38 (t_Model_mixGraph_J38 hg hA) h_fuel v1 0 μ_7
theorem t_Model_mixGraph (v1 : Int32) (μ : HMem) : HSpec y_Model_mixGraph b_Model_mixGraph 4 none 10 h_eV [.ref 125, .int v1] μ (f_Model_mixGraph v1 μ) :=
  HSpec.of (by decide +kernel) (v_Model_mixGraph.1 _ (by simp)) (Nat.le_of_ble_eq_true rfl) (fun cx hA hg => t_Model_mixGraph_0 hg hA v1 μ)
theorem t_Model_digest_L23_b {cx : HCx} (hg : HGood cx R_Model b_Model_digest 2 11 (some .long)) (hA : h_own cx) (K39 : HMem → Option (Int64 × HMem)) (hK39 : p_Model_digest_39 cx K39) (rec_ : Int32 → HMem → Option (Int64 × HMem)) (hrec_ : p_Model_digest_23 cx rec_) (v1 : Int32) (μ : HMem) : HX cx (HQ cx h_eJ) (f_Model_digest_L23_b K39 rec_ v1 μ) 0 0 23 [(0, .ref 125), (1, .int v1)] [] μ := by
  unfold f_Model_digest_L23_b
  refine r_iload_n hg 1 d_Model_digest_23 rfl rfl ?_
  refine r_iconst (v := 4) hg d_Model_digest_24 (by decide) ?_
  refine r_icmp_ge (tgt := 39) hg d_Model_digest_25 (by decide) ?_ ?_
  · refine r_sub [0] rfl ?_
    exact hK39 μ
  · refine r_aload_n hg 0 d_Model_digest_28 rfl rfl ?_
    refine r_iload_n hg 1 d_Model_digest_29 rfl rfl ?_
    refine r_callV (As := [.int v1]) hg (t_Model_mixGraph v1 μ) v_Model_mixGraph c_Model rfl (by decide) rfl wm_Model_341 d_Model_digest_30 rfl ⟨by decide, by decide⟩ (Nat.le_of_ble_eq_true rfl) rfl (fun r30 μ_30 _ => ?_)
    refine r_letE (fun v1_33 he_33 => ?_)
    refine r_iinc (v := v1_33) (l' := [(1, .int v1_33), (0, .ref 125)]) hg 1 d_Model_digest_33 rfl he_33 (Nat.le_of_ble_eq_true rfl) rfl ?_
    refine r_goto (tgt := 23) hg d_Model_digest_36 (by decide) ?_
    refine r_sub [1, 0] rfl ?_
    exact hrec_ v1_33 μ_30
theorem t_Model_digest_L23 {cx : HCx} (hg : HGood cx R_Model b_Model_digest 2 11 (some .long)) (hA : h_own cx) (K39 : HMem → Option (Int64 × HMem)) (hK39 : p_Model_digest_39 cx K39) : ∀ (fuel : Nat) (v1 : Int32) (μ : HMem), HX cx (HQ cx h_eJ) (f_Model_digest_L23 K39 fuel v1 μ) 0 0 23 [(0, .ref 125), (1, .int v1)] [] μ
  | 0, _, _ => by unfold f_Model_digest_L23; exact HX.none
  | fuel + 1, v1, μ => by
    rw [f_Model_digest_L23]
    exact t_Model_digest_L23_b hg hA  K39 hK39 (f_Model_digest_L23 K39 fuel) (t_Model_digest_L23 hg hA  K39 hK39 fuel) v1 μ
theorem t_Model_digest_L41_b {cx : HCx} (hg : HGood cx R_Model b_Model_digest 2 11 (some .long)) (hA : h_own cx) (K68 : HMem → Option (Int64 × HMem)) (hK68 : p_Model_digest_68 cx K68) (rec_ : Int32 → HMem → Option (Int64 × HMem)) (hrec_ : p_Model_digest_41 cx rec_) (v1 : Int32) (μ : HMem) : HX cx (HQ cx h_eJ) (f_Model_digest_L41_b K68 rec_ v1 μ) 0 0 41 [(0, .ref 125), (1, .int v1)] [] μ := by
  unfold f_Model_digest_L41_b
  refine r_iload_n hg 1 d_Model_digest_41 rfl rfl ?_
  refine r_bipush (v := 16) hg d_Model_digest_42 (by decide) ?_
  refine r_icmp_ge (tgt := 68) hg d_Model_digest_44 (by decide) ?_ ?_
  · refine r_sub [0] rfl ?_
    exact hK68 μ
  · refine r_aload_n hg 0 d_Model_digest_47 rfl rfl ?_
    refine r_aload_n hg 0 d_Model_digest_48 rfl rfl ?_
    refine r_iload_n hg 1 d_Model_digest_49 rfl rfl ?_
    refine r_iconst (v := 4) hg d_Model_digest_50 (by decide) ?_
    refine r_idiv hg d_Model_digest_51 ?_
    refine r_iload_n hg 1 d_Model_digest_52 rfl rfl ?_
    refine r_iconst (v := 4) hg d_Model_digest_53 (by decide) ?_
    refine r_irem hg d_Model_digest_54 ?_
    refine r_callV (As := [.int (v1 / 4), .int (h_irem v1 4)]) hg (t_Model_compared (v1 / 4) (h_irem v1 4) μ) v_Model_compared c_Model rfl (by decide) rfl wm_Model_256 d_Model_digest_55 rfl ⟨by decide, by decide⟩ (Nat.le_of_ble_eq_true rfl) rfl (fun r55 μ_55 _ => ?_)
    refine r_i2l hg d_Model_digest_58 ?_
    refine r_callV (As := [.long (Int32.toInt64 r55)]) hg (t_Model_mix (Int32.toInt64 r55) μ_55) v_Model_mix c_Model rfl (by decide) rfl wm_Model_335 d_Model_digest_59 rfl ⟨by decide, by decide⟩ (Nat.le_of_ble_eq_true rfl) rfl (fun r59 μ_59 _ => ?_)
    refine r_letE (fun v1_62 he_62 => ?_)
    refine r_iinc (v := v1_62) (l' := [(1, .int v1_62), (0, .ref 125)]) hg 1 d_Model_digest_62 rfl he_62 (Nat.le_of_ble_eq_true rfl) rfl ?_
    refine r_goto (tgt := 41) hg d_Model_digest_65 (by decide) ?_
    refine r_sub [1, 0] rfl ?_
    exact hrec_ v1_62 μ_59
theorem t_Model_digest_L41 {cx : HCx} (hg : HGood cx R_Model b_Model_digest 2 11 (some .long)) (hA : h_own cx) (K68 : HMem → Option (Int64 × HMem)) (hK68 : p_Model_digest_68 cx K68) : ∀ (fuel : Nat) (v1 : Int32) (μ : HMem), HX cx (HQ cx h_eJ) (f_Model_digest_L41 K68 fuel v1 μ) 0 0 41 [(0, .ref 125), (1, .int v1)] [] μ
  | 0, _, _ => by unfold f_Model_digest_L41; exact HX.none
  | fuel + 1, v1, μ => by
    rw [f_Model_digest_L41]
    exact t_Model_digest_L41_b hg hA  K68 hK68 (f_Model_digest_L41 K68 fuel) (t_Model_digest_L41 hg hA  K68 hK68 fuel) v1 μ
theorem t_Model_digest_J68 {cx : HCx} (hg : HGood cx R_Model b_Model_digest 2 11 (some .long)) (hA : h_own cx)    (μ : HMem) : HX cx (HQ cx h_eJ) (f_Model_digest_J68   μ) 0 0 68 [(0, .ref 125)] [] μ := by
  unfold f_Model_digest_J68
  refine r_aload_n hg 0 d_Model_digest_68 rfl rfl ?_
  refine r_aload_n hg 0 d_Model_digest_69 rfl rfl ?_
  refine r_get (v := .int (μ.1 125 2)) hg c_Model (by decide) rfl (Nat.le_of_ble_eq_true rfl) rfl wf_Model_83 d_Model_digest_70 rfl ?_
  refine r_i2l hg d_Model_digest_73 ?_
  refine r_callV (As := [.long (Int32.toInt64 (μ.1 125 2))]) hg (t_Model_mix (Int32.toInt64 (μ.1 125 2)) μ) v_Model_mix c_Model rfl (by decide) rfl wm_Model_335 d_Model_digest_74 rfl ⟨by decide, by decide⟩ (Nat.le_of_ble_eq_true rfl) rfl (fun r74 μ_74 _ => ?_)
  refine r_aload_n hg 0 d_Model_digest_77 rfl rfl ?_
  refine r_get (v := .long (μ_74.2 125 25)) hg c_Model (by decide) rfl (Nat.le_of_ble_eq_true rfl) rfl wf_Model_331 d_Model_digest_78 rfl ?_
  exact r_lret hg hA rfl d_Model_digest_81 rfl
theorem t_Model_digest_J39 {cx : HCx} (hg : HGood cx R_Model b_Model_digest 2 11 (some .long)) (hA : h_own cx)    (μ : HMem) : HX cx (HQ cx h_eJ) (f_Model_digest_J39   μ) 0 0 39 [(0, .ref 125)] [] μ := by
  unfold f_Model_digest_J39
  refine r_iconst (v := 0) hg d_Model_digest_39 (by decide) ?_
  refine r_istore_n (l' := [(1, .int 0), (0, .ref 125)]) hg d_Model_digest_40 rfl (Nat.le_of_ble_eq_true rfl) rfl ?_
  refine r_sub [1, 0] rfl ?_
  exact t_Model_digest_L41 hg hA f_Model_digest_J68 (t_Model_digest_J68 hg hA) h_fuel 0 μ
theorem t_Model_digest_0 {cx : HCx} (hg : HGood cx R_Model b_Model_digest 2 11 (some .long)) (hA : h_own cx)  (μ : HMem) : HX cx (HQ cx h_eJ) (f_Model_digest μ) 0 0 0 [(0, .ref 125)] [] μ := by
  unfold f_Model_digest
  refine r_aload_n hg 0 d_Model_digest_0 rfl rfl ?_
  refine r_iconst (v := 0) hg d_Model_digest_1 (by decide) ?_
  refine r_put hg c_Model t_Model_ok n_Model (by decide) rfl (Nat.le_of_ble_eq_true rfl) rfl rfl (by decide +kernel) wf_Model_63 d_Model_digest_2 ?_
  refine r_letM (fun μ_2 => ?_)
  refine r_aload_n hg 0 d_Model_digest_5 rfl rfl ?_
  refine r_ldc2 hg wc_Model_339 d_Model_digest_6 ?_
  refine r_putJ hg c_Model t_Model_ok n_Model (by decide) rfl (Nat.le_of_ble_eq_true rfl) rfl rfl (by decide +kernel) wf_Model_331 d_Model_digest_9 ?_
  refine r_letM (fun μ_9 => ?_)
  refine r_aload_n hg 0 d_Model_digest_12 rfl rfl ?_
  refine r_aload_n hg 0 d_Model_digest_13 rfl rfl ?_
  refine r_get (v := .int (μ_9.1 125 4)) hg c_Model (by decide) rfl (Nat.le_of_ble_eq_true rfl) rfl wf_Model_289 d_Model_digest_14 rfl ?_
  refine r_i2l hg d_Model_digest_17 ?_
  refine r_callV (As := [.long (Int32.toInt64 (μ_9.1 125 4))]) hg (t_Model_mix (Int32.toInt64 (μ_9.1 125 4)) μ_9) v_Model_mix c_Model rfl (by decide) rfl wm_Model_335 d_Model_digest_18 rfl ⟨by decide, by decide⟩ (Nat.le_of_ble_eq_true rfl) rfl (fun r18 μ_18 _ => ?_)
  refine r_iconst (v := 0) hg d_Model_digest_21 (by decide) ?_
  refine r_istore_n (l' := [(1, .int 0), (0, .ref 125)]) hg d_Model_digest_22 rfl (Nat.le_of_ble_eq_true rfl) rfl ?_
  refine r_sub [1, 0] rfl ?_
  exact t_Model_digest_L23 hg hA f_Model_digest_J39 (t_Model_digest_J39 hg hA) h_fuel 0 μ_18
theorem t_Model_digest  (μ : HMem) : HSpec y_Model_digest b_Model_digest 2 (some .long) 11 h_eJ [.ref 125] μ (f_Model_digest μ) :=
  HSpec.of (by decide +kernel) (v_Model_digest.1 _ (by simp)) (Nat.le_of_ble_eq_true rfl) (fun cx hA hg => t_Model_digest_0 hg hA  μ)
