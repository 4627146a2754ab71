/-! 9e: the law's beginning: two new objects, a new array of longs -/
theorem n_astore {cx : HCx} {Q : State → Prop} {us : va_W} {S : Nat → Prop} {z k n pc : Nat} {l : List (Nat × Value)} {st : List Value} {own : String} {b : ByteArray} {nL lv mc ms : Nat} {rt : Option FieldType} (hg : NGood cx own b nL lv mc ms rt) {j : Fin 4} {i x : Nat} {l' : List (Nat × Value)} (hd : decode b pc = .ok (.astore_n j, 1)) (hi : (j : Nat) = i) (hn : i < nL) (hl' : h_st1 l i (.ref x) = l') (kk : NX cx Q us S z k n (pc + 1) l' st) : NX cx Q us S z k n pc l (.ref x :: st) := by
  obtain ⟨p, lc, e, Rm, s, m, args, below, meth, c, G, A⟩ := cx
  subst hl'
  intro H locs ls hz ho hS hSS hl hC
  exact lv_astore_n hg.1 hg.2.1 hd hi hl (hg.2.2.1 ▸ hn) rfl (fun ls' hl' => kk H locs ls' hz ho hS hSS hl' hC)
theorem n_istore2 {cx : HCx} {Q : State → Prop} {us : va_W} {S : Nat → Prop} {z k n pc : Nat} {l : List (Nat × Value)} {st : List Value} {own : String} {b : ByteArray} {nL lv mc ms : Nat} {rt : Option FieldType} (hg : NGood cx own b nL lv mc ms rt) {i : Nat} {x : Int32} {l' : List (Nat × Value)} (hd : decode b pc = .ok (.istore i, 2)) (hn : i < nL) (hl' : h_st1 l i (.int x) = l') (kk : NX cx Q us S z k n (pc + 2) l' st) : NX cx Q us S z k n pc l (.int x :: st) := by
  obtain ⟨p, lc, e, Rm, s, m, args, below, meth, c, G, A⟩ := cx
  subst hl'
  intro H locs ls hz ho hS hSS hl hC
  exact lv_istore hg.1 hg.2.1 hd hl (hg.2.2.1 ▸ hn) rfl (fun ls' hl' => kk H locs ls' hz ho hS hSS hl' hC)
theorem l_0 : decode code 0 = .ok (.new 8, 3) := by decide +kernel
theorem l_3 : decode code 3 = .ok (.dup, 1) := by decide +kernel
theorem l_4 : decode code 4 = .ok (.invokespecial 122, 3) := by decide +kernel
theorem l_7 : decode code 7 = .ok (.astore_n 1, 1) := by decide +kernel
theorem l_8 : decode code 8 = .ok (.new 123, 3) := by decide +kernel
theorem l_11 : decode code 11 = .ok (.dup, 1) := by decide +kernel
theorem l_12 : decode code 12 = .ok (.invokespecial 125, 3) := by decide +kernel
theorem l_15 : decode code 15 = .ok (.astore_n 2, 1) := by decide +kernel
theorem l_16 : decode code 16 = .ok (.iconst 1, 1) := by decide +kernel
theorem l_17 : decode code 17 = .ok (.newarray .long, 2) := by decide +kernel
theorem l_19 : decode code 19 = .ok (.astore_n 3, 1) := by decide +kernel
theorem l_20 : decode code 20 = .ok (.iconst 0, 1) := by decide +kernel
theorem l_21 : decode code 21 = .ok (.istore 4, 2) := by decide +kernel
theorem q_1 : Cond.classLink R_law 8 "HomBench" ∈ h_tb := h_inI 122 (by decide +kernel) rfl
theorem q_2 : Cond.instantiable "HomBench" 11 ∈ h_tb := h_inI 123 (by decide +kernel) rfl
theorem q_3 : Cond.methodLink R_law 122 ⟨"HomBench", "<init>", "()V"⟩ ∈ h_tb := h_inI 124 (by decide +kernel) rfl
theorem q_4 : Cond.instanceMethod ⟨"HomBench", "<init>", "()V"⟩ ∈ h_tb := h_inI 125 (by decide +kernel) rfl
theorem q_5 : Cond.code ⟨"HomBench", "<init>", "()V"⟩ prog_1_method_1_code 2 none ∈ h_tb := h_inI 126 (by decide +kernel) rfl
theorem q_6 : Cond.initialized "HomBench" ∈ h_tb := h_inI 100 (by decide +kernel) rfl
theorem q_7 : Cond.classLink R_law 123 "HomBenchModel" ∈ h_tb := h_inI 1121 (by decide +kernel) rfl
theorem q_8 : Cond.instantiable "HomBenchModel" 26 ∈ h_tb := h_inI 1122 (by decide +kernel) rfl
theorem q_9 : Cond.methodLink R_law 125 ⟨"HomBenchModel", "<init>", "()V"⟩ ∈ h_tb := h_inI 1123 (by decide +kernel) rfl
theorem q_10 : Cond.instanceMethod ⟨"HomBenchModel", "<init>", "()V"⟩ ∈ h_tb := h_inI 1124 (by decide +kernel) rfl
theorem q_11 : Cond.code ⟨"HomBenchModel", "<init>", "()V"⟩ prog_12_method_1_code 1 none ∈ h_tb := h_inI 1125 (by decide +kernel) rfl
theorem q_12 : Cond.initialized "HomBenchModel" ∈ h_tb := h_inI 110 (by decide +kernel) rfl
theorem q_13 : Cond.arrayClass .long ∈ h_tb := h_inI 332 (by decide +kernel) rfl
theorem pm_B : ∀ e ∈ b_Bench, e < 144 ∧ h_perm e < 125 := by decide +kernel
theorem pm_M : ∀ e ∈ b_Model, e < 144 ∧ h_perm e < 143 := by decide +kernel
theorem pm_all : ∀ e, e < 144 → e ∈ b_Bench ∨ e ∈ b_Model ∨ e = 143 := by decide +kernel
theorem pm_inj : ∀ i, i < 144 → ∀ j, j < 144 → h_perm i = h_perm j → i = j := by decide +kernel
