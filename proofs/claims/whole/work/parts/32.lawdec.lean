/-! The law's body, from its loop on. -/
def hB (k n B : Nat) : Prop := k + B ≤ 600000 ∧ n + 6 * B ≤ 7200000
/-- what the law's body stands on: the script lies at the id 144 -/
def HLaw (cx : HCx) (xs : Nat → Int32) (L : Nat) : Prop := match cx with
  | (_, lc, _, Rm, s, _, args, _, _, _, G, A) => lc.stackTraces = false ∧ h_xs s ∧ h_xz A s s.heap ∧ Rm = room_1 ∧ va_X (G.2.2 144) L xs s s.heap ∧ G.2.2 144 < s.heap.size ∧ (A = fun q : Nat => s.heap.size ≤ q) ∧ args = #[Value.ref (G.2.2 144)]
def h_lawQ (cx : HCx) : Unit → HMem → State → Prop := match cx with
  | (_, _, _, _, s, _, _, below, _, _, G, _) => fun _ _ => lw_Z below #[Value.ref (G.2.2 144)] s
section HRL
variable {R R' : Type} {cx : HCx} {Qf : R → HMem → State → Prop} {F A B : Option (R × HMem)} {k n pc : Nat} {l : List (Nat × Value)} {st : List Value} {μ : HMem} {own : String} {b : ByteArray} {nL lv L : Nat} {rt : Option FieldType} {xs : Nat → Int32}
theorem r_sld (hg : HGood cx own b nL lv rt) (hT : HLaw cx xs L) {i : Int32} (hd : decode b pc = .ok (.iaload, 1)) (kk : HX cx Qf F k n (pc + 1) l (.int (xs i.toNatClampNeg) :: st) μ) : HX cx Qf (h_chk i L F) k n pc l (.int i :: .ref 144 :: st) μ := by
  obtain ⟨p, lc, e, Rm, s, m, args, below, meth, c, G, A'⟩ := cx
  intro r μ' hF H locs ls hP hS hl hC
  obtain ⟨hi, hF⟩ := h_chk_some hF
  obtain ⟨htr, hxs, hxz, hR, hX, hbl, hA, hargs⟩ := id hT
  exact va_sld hg.1 hg.2.1 hX hbl (by rw [hA]; exact Nat.not_le.mpr hbl) hS hi hd (kk r μ' hF H locs ls hP hS hl hC)
theorem r_slen (hg : HGood cx own b nL lv rt) (hT : HLaw cx xs L) (hd : decode b pc = .ok (.arraylength, 1)) (kk : HX cx Qf F k n (pc + 1) l (.int (nI L) :: st) μ) : HX cx Qf F k n pc l (.ref 144 :: st) μ := by
  obtain ⟨p, lc, e, Rm, s, m, args, below, meth, c, G, A'⟩ := cx
  intro r μ' hF H locs ls hP hS hl hC
  obtain ⟨htr, hxs, hxz, hR, hX, hbl, hA, hargs⟩ := id hT
  exact va_slen hg.1 hg.2.1 hX hbl (by rw [hA]; exact Nat.not_le.mpr hbl) hS hd (kk r μ' hF H locs ls hP hS hl hC)
theorem r_lawret (hg : HGood cx own b nL lv rt) (hT : HLaw cx xs L) {k0 n0 B0 : Nat} (hkn : hB k n B0) (hb : b = code) (hr : rt = ret) (hd : decode code pc = .ok (.ireturn, 1)) : HX cx (h_lawQ cx) (some ((), μ)) k n pc l [.int 1] μ := by
  obtain ⟨p, lc, e, Rm, s, m, args, below, meth, c, G, A'⟩ := cx
  intro r μ' hF H locs ls hP hS hl hC
  obtain ⟨htr, hxs, hxz, hR, hX, hbl, hA, hargs⟩ := id hT
  obtain ⟨hx, hb0, hml, hown, hts, hK, hi, hAd, hR2, hlk, hrt, hnw⟩ := id hg
  subst hR
  subst hargs
  refine va_forget (fun q hq => by have := hS.2.2 q hq; rw [hA] at this; exact this) ?_
  unfold hB at hkn
  refine W.widen (k := 601024) (n := 7293034) (by omega) (by omega) ?_
  exact lw_ret hx (hb0.trans hb) (hrt.trans hr) hlk hd
theorem h_callM {p : Program} {l : Launch} {e : Env} {R : Room} {s : State} {m : MethodId} {args : Array Value} {below : List Frame} {meth : Method} {c : Code} {H : Heap} {locs : List Loc} {cells slots mc ms : Nat} {Q : State → Prop} {pc : Nat} {ls : Array Slot} {rest st0 : List Value} {A0 A1 : Nat → Prop} {H0 : Heap} {free : Addr → Prop} {v : Option Value} {P : Heap → Prop} (hr : va_Run p l e R s m args below meth c H locs cells slots mc ms (F0 m pc ls st0) rest (fun st o t => o = .returned v ∧ P t.heap ∧ va_F A1 st t) free) (hS : va_S A0 H0 H locs) (hA : ∀ q, A1 q → A0 q) (hf : ∀ q, free q → A0 q)
    (kk : ∀ (H1 : Heap) (locs1 : List Loc), P H1 → va_S A0 H0 H1 locs1 → W p l e R s m args below meth c H1 locs1 (cells + mc) (slots + ms) Q (F0 m (pc + 3) ls (v.toList ++ rest))) : W p l e R s m args below meth c H locs cells slots Q (F0 m pc ls st0) := by
  intro T hT X
  obtain ⟨v', st₀, t, T', L, h0, X', hL, e1, e2, ⟨hv, hp, hF⟩, st⟩ := hr T hT X
  cases hv
  obtain ⟨t2, a1, b1⟩ := kk T'.heap (locs ++ L) (by rw [e1]; exact hp) (h_keep h0 e1 hS hA hf hL hF) T' rfl X'
  exact ⟨t2, st t2 a1, b1⟩
theorem r_wcall (hg : HGood cx own b nL lv rt) (hT : HLaw cx xs L) {y : MethodName} {b' : ByteArray} {nL' lv' mc' idx n0 B0 : Nat} {rt' : Option FieldType} {hh : List (Nat × Nat × Nat × Nat)} {enc : R' → Option Value} {As : List Value} {F' : Option (R' × HMem)} {K : R' → HMem → Option (R × HMem)}
    (hsp : HSpecW y b' nL' rt' hh lv' mc' enc As μ F') (hv : HStatW y b' nL' rt' hh n0) (hw : Cond.methodLink own idx y ∈ h_tb) (hd : decode b pc = .ok (.invokestatic idx, 3)) (hn0 : As.length = n0) (hlv : lv' + 1 ≤ lv ∧ nL' ≤ 45) (hkn : hB k n (B0 + 16)) (hmc : mc' ≤ 16) (hst : (st.map fun v => v.category).sum ≤ 8) {st0 : List Value} (hst0 : st0 = As.reverse ++ st)
    (kk : ∀ r μ1, F' = some (r, μ1) → ∀ k' n', hB k' n' B0 → HX cx Qf (K r μ1) k' n' (pc + 3) l ((enc r).toList ++ st) μ1) : HX cx Qf (h_bd F' K) k n pc l st0 μ := by
  subst hst0
  obtain ⟨p, lc, e, Rm, s, m, args, below, meth, c, G, A'⟩ := cx
  intro r μ' hF H locs ls hP hS hl hC
  obtain ⟨htr, hxs, hxz, hRm, hX, hbl, hA, hargs⟩ := id hT
  unfold h_bd at hF
  cases hF' : F' with
  | none => rw [hF'] at hF; cases hF
  | some o =>
    obtain ⟨r1, μ1⟩ := o
    rw [hF'] at hF
    obtain ⟨hx, hb, hml, hown, hts, hK, hi, hAd, hR, -, -, hnw⟩ := id hg
    have hM := hsp r1 μ1 hF' lc G htr hi
    unfold hB at hkn
    have hC2 : k + mc' ≤ Rm.cells ∧ n + 6 * mc' ≤ Rm.slots := by
      rw [hRm]
      show k + mc' ≤ 601024 ∧ n + 6 * mc' ≤ 7293034
      omega
    have hcw : vx_CSW Rm s args own idx y b' nL' rt' hh (.codeWith y b' nL' rt' hh :: h_tb) (h_roomx lv' mc') mc' (6 * mc') n0 := by
      have ht : ∀ w ∈ ([.static y, .initialized y.cls, .codeWith y b' nL' rt' hh] : List Cond), w.before args s = true := fun w hw => hts w (hv.1 w hw)
      refine ⟨⟨rfl, rfl, by show lv' + 1 ≤ _; omega, by show 8 + (nL' + 11) + 64 * lv' ≤ _; omega, pay_in hts (h_good (fun w hw => (List.mem_cons.mp hw).elim (fun h => h ▸ hv.1 _ (by simp)) id)), List.mem_cons_self⟩, ht _ (by simp), ht _ (by simp), ⟨hv.2.1, hv.2.2.1⟩, fun sig h => ?_, hts _ hw, ht _ (by simp)⟩
      have h2 := hv.2.2.2
      rw [h] at h2
      exact (Option.some.inj h2).symm
    have hp := h_prex (as := As) hP hK hnw hxs hxz hS hAd
    have hrun := vx_runSW (As := h_trs G As) (rest := h_trs G st) (g := F0 m pc ls (h_trs G (As.reverse ++ st))) (locs := locs) (below := below) (e := e) (cells := k) (slots := n) (R := Rm) (Ts := h_tb) (meth := meth) ⟨hx, hb, rfl, hown, hts⟩ hM hcw ⟨hp.1, hp.2⟩ rfl (by simp [h_trs, hn0]) hl.1 (by simp [h_trs]) (by rw [h_trs_cat]; simpa using hst) hd hC2
    have hAA : ∀ q, h_A G q → A' q := fun q hq => by obtain ⟨d, hd, rfl⟩ := hq; exact hAd d hd
    refine h_callM (v := (enc r1).map (h_tr G)) (P := fun H => va_P G.1 h_cl (h_ws G μ1) H) (A1 := h_A G) hrun hS hAA hAA (fun H1 locs1 hP1 hS1 => ?_)
    have h9 := kk r1 μ1 hF' (k + mc') (n + 6 * mc') ⟨by omega, by omega⟩ r μ' hF H1 locs1 ls hP1 hS1 hl hC2
    have e9 : ((enc r1).map (h_tr G)).toList ++ h_trs G st = h_trs G ((enc r1).toList ++ st) := by cases enc r1 <;> rfl
    rw [e9]
    exact h9
end HRL
theorem hB.less {k n B : Nat} (h : hB k n (B + 16)) : hB k n B := ⟨by have := h.1; omega, by have := h.2; omega⟩
theorem wm_Law_126 : Cond.methodLink R_Law 126 y_Law_setSize ∈ h_tb := h_inI 492 (by decide +kernel) rfl
theorem wm_Law_131 : Cond.methodLink R_Law 131 y_Model_setSize ∈ h_tb := h_inI 1211 (by decide +kernel) rfl
theorem wm_Law_132 : Cond.methodLink R_Law 132 y_Model_thrown ∈ h_tb := h_inI 1207 (by decide +kernel) rfl
theorem wm_Law_135 : Cond.methodLink R_Law 135 y_Law_setVertex ∈ h_tb := h_inI 607 (by decide +kernel) rfl
theorem wm_Law_138 : Cond.methodLink R_Law 138 y_Model_setVertex ∈ h_tb := h_inI 1245 (by decide +kernel) rfl
theorem wm_Law_139 : Cond.methodLink R_Law 139 y_Law_setEdge ∈ h_tb := h_inI 618 (by decide +kernel) rfl
theorem wm_Law_142 : Cond.methodLink R_Law 142 y_Model_setEdge ∈ h_tb := h_inI 1257 (by decide +kernel) rfl
theorem wm_Law_143 : Cond.methodLink R_Law 143 y_Law_make ∈ h_tb := h_inI 629 (by decide +kernel) rfl
theorem wm_Law_145 : Cond.methodLink R_Law 145 y_Model_make ∈ h_tb := h_inI 1269 (by decide +kernel) rfl
theorem wm_Law_146 : Cond.methodLink R_Law 146 y_Law_random ∈ h_tb := h_inI 655 (by decide +kernel) rfl
theorem wm_Law_148 : Cond.methodLink R_Law 148 y_Model_random ∈ h_tb := h_inI 1276 (by decide +kernel) rfl
theorem wm_Law_149 : Cond.methodLink R_Law 149 y_Law_combine ∈ h_tb := h_inI 672 (by decide +kernel) rfl
theorem wm_Law_151 : Cond.methodLink R_Law 151 y_Model_combine ∈ h_tb := h_inI 1286 (by decide +kernel) rfl
theorem wm_Law_152 : Cond.methodLink R_Law 152 y_Law_derive ∈ h_tb := h_inI 724 (by decide +kernel) rfl
theorem wm_Law_154 : Cond.methodLink R_Law 154 y_Model_derive ∈ h_tb := h_inI 1305 (by decide +kernel) rfl
theorem wm_Law_155 : Cond.methodLink R_Law 155 y_Law_graph ∈ h_tb := h_inI 741 (by decide +kernel) rfl
theorem wm_Law_157 : Cond.methodLink R_Law 157 y_Model_graph ∈ h_tb := h_inI 1364 (by decide +kernel) rfl
theorem wm_Law_158 : Cond.methodLink R_Law 158 y_Law_vertex ∈ h_tb := h_inI 754 (by decide +kernel) rfl
theorem wm_Law_160 : Cond.methodLink R_Law 160 y_Model_vertex ∈ h_tb := h_inI 1384 (by decide +kernel) rfl
theorem wm_Law_161 : Cond.methodLink R_Law 161 y_Law_edge ∈ h_tb := h_inI 761 (by decide +kernel) rfl
theorem wm_Law_163 : Cond.methodLink R_Law 163 y_Model_edge ∈ h_tb := h_inI 1391 (by decide +kernel) rfl
theorem wm_Law_164 : Cond.methodLink R_Law 164 y_Law_greedy ∈ h_tb := h_inI 768 (by decide +kernel) rfl
theorem wm_Law_166 : Cond.methodLink R_Law 166 y_Model_greedy ∈ h_tb := h_inI 1395 (by decide +kernel) rfl
theorem wm_Law_167 : Cond.methodLink R_Law 167 y_Law_width ∈ h_tb := h_inI 792 (by decide +kernel) rfl
theorem wm_Law_170 : Cond.methodLink R_Law 170 y_Model_width ∈ h_tb := h_inI 1411 (by decide +kernel) rfl
theorem wm_Law_171 : Cond.methodLink R_Law 171 y_Law_treewidth ∈ h_tb := h_inI 808 (by decide +kernel) rfl
theorem wm_Law_174 : Cond.methodLink R_Law 174 y_Model_treewidth ∈ h_tb := h_inI 1419 (by decide +kernel) rfl
theorem wm_Law_175 : Cond.methodLink R_Law 175 y_Law_bag ∈ h_tb := h_inI 815 (by decide +kernel) rfl
theorem wm_Law_177 : Cond.methodLink R_Law 177 y_Model_bag ∈ h_tb := h_inI 1431 (by decide +kernel) rfl
theorem wm_Law_178 : Cond.methodLink R_Law 178 y_Law_count ∈ h_tb := h_inI 822 (by decide +kernel) rfl
theorem wm_Law_180 : Cond.methodLink R_Law 180 y_Model_count ∈ h_tb := h_inI 1435 (by decide +kernel) rfl
theorem wm_Law_181 : Cond.methodLink R_Law 181 y_Law_density ∈ h_tb := h_inI 895 (by decide +kernel) rfl
theorem wm_Law_183 : Cond.methodLink R_Law 183 y_Model_density ∈ h_tb := h_inI 1467 (by decide +kernel) rfl
theorem wm_Law_184 : Cond.methodLink R_Law 184 y_Law_automorphisms ∈ h_tb := h_inI 906 (by decide +kernel) rfl
theorem wm_Law_186 : Cond.methodLink R_Law 186 y_Model_automorphisms ∈ h_tb := h_inI 1471 (by decide +kernel) rfl
theorem wm_Law_187 : Cond.methodLink R_Law 187 y_Law_isomorphic ∈ h_tb := h_inI 913 (by decide +kernel) rfl
theorem wm_Law_189 : Cond.methodLink R_Law 189 y_Model_isomorphic ∈ h_tb := h_inI 1483 (by decide +kernel) rfl
theorem wm_Law_190 : Cond.methodLink R_Law 190 y_Law_image ∈ h_tb := h_inI 928 (by decide +kernel) rfl
theorem wm_Law_192 : Cond.methodLink R_Law 192 y_Model_image ∈ h_tb := h_inI 1487 (by decide +kernel) rfl
theorem wm_Law_193 : Cond.methodLink R_Law 193 y_Law_compare ∈ h_tb := h_inI 943 (by decide +kernel) rfl
theorem wm_Law_195 : Cond.methodLink R_Law 195 y_Model_compare ∈ h_tb := h_inI 1495 (by decide +kernel) rfl
theorem wm_Law_196 : Cond.methodLink R_Law 196 y_Law_colorings ∈ h_tb := h_inI 950 (by decide +kernel) rfl
theorem wm_Law_198 : Cond.methodLink R_Law 198 y_Model_colorings ∈ h_tb := h_inI 1503 (by decide +kernel) rfl
theorem wm_Law_199 : Cond.methodLink R_Law 199 y_Law_chromatic ∈ h_tb := h_inI 964 (by decide +kernel) rfl
theorem wm_Law_201 : Cond.methodLink R_Law 201 y_Model_chromatic ∈ h_tb := h_inI 1515 (by decide +kernel) rfl
theorem wm_Law_202 : Cond.methodLink R_Law 202 y_Law_independent ∈ h_tb := h_inI 971 (by decide +kernel) rfl
theorem wm_Law_204 : Cond.methodLink R_Law 204 y_Model_independent ∈ h_tb := h_inI 1519 (by decide +kernel) rfl
theorem wm_Law_205 : Cond.methodLink R_Law 205 y_Law_walks ∈ h_tb := h_inI 979 (by decide +kernel) rfl
theorem wm_Law_207 : Cond.methodLink R_Law 207 y_Model_walks ∈ h_tb := h_inI 1527 (by decide +kernel) rfl
theorem wm_Law_208 : Cond.methodLink R_Law 208 y_Law_folds ∈ h_tb := h_inI 999 (by decide +kernel) rfl
theorem wm_Law_210 : Cond.methodLink R_Law 210 y_Model_folds ∈ h_tb := h_inI 1535 (by decide +kernel) rfl
theorem wm_Law_211 : Cond.methodLink R_Law 211 y_Law_dismantle ∈ h_tb := h_inI 1010 (by decide +kernel) rfl
theorem wm_Law_213 : Cond.methodLink R_Law 213 y_Model_dismantle ∈ h_tb := h_inI 1547 (by decide +kernel) rfl
theorem wm_Law_214 : Cond.methodLink R_Law 214 y_Law_isCore ∈ h_tb := h_inI 1026 (by decide +kernel) rfl
theorem wm_Law_216 : Cond.methodLink R_Law 216 y_Model_isCore ∈ h_tb := h_inI 1555 (by decide +kernel) rfl
theorem wm_Law_217 : Cond.methodLink R_Law 217 y_Law_coreSize ∈ h_tb := h_inI 1033 (by decide +kernel) rfl
theorem wm_Law_219 : Cond.methodLink R_Law 219 y_Model_coreSize ∈ h_tb := h_inI 1559 (by decide +kernel) rfl
theorem wm_Law_220 : Cond.methodLink R_Law 220 y_Law_append ∈ h_tb := h_inI 1040 (by decide +kernel) rfl
theorem wm_Law_222 : Cond.methodLink R_Law 222 y_Model_append ∈ h_tb := h_inI 1567 (by decide +kernel) rfl
theorem wm_Law_223 : Cond.methodLink R_Law 223 y_Bench_clearText ∈ h_tb := h_inI 367 (by decide +kernel) rfl
theorem wm_Law_226 : Cond.methodLink R_Law 226 y_Model_clearText ∈ h_tb := h_inI 1571 (by decide +kernel) rfl
theorem wm_Law_227 : Cond.methodLink R_Law 227 y_Law_parse ∈ h_tb := h_inI 1048 (by decide +kernel) rfl
theorem wm_Law_229 : Cond.methodLink R_Law 229 y_Model_parse ∈ h_tb := h_inI 1575 (by decide +kernel) rfl
theorem wm_Law_230 : Cond.methodLink R_Law 230 y_Law_written ∈ h_tb := h_inI 1085 (by decide +kernel) rfl
theorem wm_Law_232 : Cond.methodLink R_Law 232 y_Model_written ∈ h_tb := h_inI 1599 (by decide +kernel) rfl
theorem wm_Law_233 : Cond.methodLink R_Law 233 y_Law_undo ∈ h_tb := h_inI 1109 (by decide +kernel) rfl
theorem wm_Law_236 : Cond.methodLink R_Law 236 y_Model_undo ∈ h_tb := h_inI 1619 (by decide +kernel) rfl
theorem wm_Law_237 : Cond.methodLink R_Law 237 y_Bench_digest ∈ h_tb := h_inI 371 (by decide +kernel) rfl
theorem wm_Law_241 : Cond.methodLink R_Law 241 y_Model_digest ∈ h_tb := h_inI 1623 (by decide +kernel) rfl
theorem d_Law_law_23 : decode code 23 = .ok (.iload 4, 2) := by decide +kernel
theorem d_Law_law_25 : decode code 25 = .ok (.aload_n 0, 1) := by decide +kernel
theorem d_Law_law_26 : decode code 26 = .ok (.arraylength, 1) := by decide +kernel
theorem d_Law_law_27 : decode code 27 = .ok (.iconst 5, 1) := by decide +kernel
theorem d_Law_law_28 : decode code 28 = .ok (.isub, 1) := by decide +kernel
theorem d_Law_law_29 : decode code 29 = .ok (.if_icmp .gt 2494, 3) := by decide +kernel
theorem d_Law_law_32 : decode code 32 = .ok (.aload_n 0, 1) := by decide +kernel
theorem d_Law_law_33 : decode code 33 = .ok (.iload 4, 2) := by decide +kernel
theorem d_Law_law_35 : decode code 35 = .ok (.iaload, 1) := by decide +kernel
theorem d_Law_law_36 : decode code 36 = .ok (.bipush 63, 2) := by decide +kernel
theorem d_Law_law_38 : decode code 38 = .ok (.iand, 1) := by decide +kernel
theorem d_Law_law_39 : decode code 39 = .ok (.tableswitch 2478 0 33 #[149, 217, 297, 389, 469, 561, 653, 745, 813, 893, 973, 1041, 1137, 1193, 1261, 1340, 1419, 1475, 1550, 1630, 1698, 1765, 1821, 1889, 1984, 2052, 2108, 2171, 2227, 2283, 2296, 2352, 2420, 2464], 149) := by decide +kernel
theorem d_Law_law_188 : decode code 188 = .ok (.aload_n 1, 1) := by decide +kernel
theorem d_Law_law_189 : decode code 189 = .ok (.aload_n 0, 1) := by decide +kernel
theorem d_Law_law_190 : decode code 190 = .ok (.iload 4, 2) := by decide +kernel
theorem d_Law_law_192 : decode code 192 = .ok (.iconst 1, 1) := by decide +kernel
theorem d_Law_law_193 : decode code 193 = .ok (.iadd, 1) := by decide +kernel
theorem d_Law_law_194 : decode code 194 = .ok (.iaload, 1) := by decide +kernel
theorem d_Law_law_195 : decode code 195 = .ok (.aload_n 0, 1) := by decide +kernel
theorem d_Law_law_196 : decode code 196 = .ok (.iload 4, 2) := by decide +kernel
theorem d_Law_law_198 : decode code 198 = .ok (.iconst 2, 1) := by decide +kernel
theorem d_Law_law_199 : decode code 199 = .ok (.iadd, 1) := by decide +kernel
theorem d_Law_law_200 : decode code 200 = .ok (.iaload, 1) := by decide +kernel
theorem d_Law_law_201 : decode code 201 = .ok (.aload_n 3, 1) := by decide +kernel
theorem d_Law_law_202 : decode code 202 = .ok (.invokestatic 126, 3) := by decide +kernel
theorem d_Law_law_205 : decode code 205 = .ok (.istore 5, 2) := by decide +kernel
theorem d_Law_law_207 : decode code 207 = .ok (.aload_n 2, 1) := by decide +kernel
theorem d_Law_law_208 : decode code 208 = .ok (.aload_n 0, 1) := by decide +kernel
theorem d_Law_law_209 : decode code 209 = .ok (.iload 4, 2) := by decide +kernel
theorem d_Law_law_211 : decode code 211 = .ok (.iconst 1, 1) := by decide +kernel
theorem d_Law_law_212 : decode code 212 = .ok (.iadd, 1) := by decide +kernel
theorem d_Law_law_213 : decode code 213 = .ok (.iaload, 1) := by decide +kernel
theorem d_Law_law_214 : decode code 214 = .ok (.aload_n 0, 1) := by decide +kernel
theorem d_Law_law_215 : decode code 215 = .ok (.iload 4, 2) := by decide +kernel
theorem d_Law_law_217 : decode code 217 = .ok (.iconst 2, 1) := by decide +kernel
theorem d_Law_law_218 : decode code 218 = .ok (.iadd, 1) := by decide +kernel
theorem d_Law_law_219 : decode code 219 = .ok (.iaload, 1) := by decide +kernel
theorem d_Law_law_220 : decode code 220 = .ok (.invokevirtual 131, 3) := by decide +kernel
theorem d_Law_law_223 : decode code 223 = .ok (.istore 6, 2) := by decide +kernel
theorem d_Law_law_225 : decode code 225 = .ok (.aload_n 2, 1) := by decide +kernel
theorem d_Law_law_226 : decode code 226 = .ok (.invokevirtual 132, 3) := by decide +kernel
theorem d_Law_law_229 : decode code 229 = .ok (.iload 5, 2) := by decide +kernel
theorem d_Law_law_231 : decode code 231 = .ok (.if_icmp .eq 5, 3) := by decide +kernel
theorem d_Law_law_236 : decode code 236 = .ok (.iload 5, 2) := by decide +kernel
theorem d_Law_law_238 : decode code 238 = .ok (.ifCond .ne 15, 3) := by decide +kernel
theorem d_Law_law_241 : decode code 241 = .ok (.aload_n 3, 1) := by decide +kernel
theorem d_Law_law_242 : decode code 242 = .ok (.iconst 0, 1) := by decide +kernel
theorem d_Law_law_243 : decode code 243 = .ok (.laload, 1) := by decide +kernel
theorem d_Law_law_244 : decode code 244 = .ok (.iload 6, 2) := by decide +kernel
theorem d_Law_law_246 : decode code 246 = .ok (.i2l, 1) := by decide +kernel
theorem d_Law_law_247 : decode code 247 = .ok (.lcmp, 1) := by decide +kernel
theorem d_Law_law_248 : decode code 248 = .ok (.ifCond .eq 5, 3) := by decide +kernel
theorem d_Law_law_253 : decode code 253 = .ok (.goto 2264, 3) := by decide +kernel
theorem d_Law_law_256 : decode code 256 = .ok (.aload_n 1, 1) := by decide +kernel
theorem d_Law_law_257 : decode code 257 = .ok (.aload_n 0, 1) := by decide +kernel
theorem d_Law_law_258 : decode code 258 = .ok (.iload 4, 2) := by decide +kernel
theorem d_Law_law_260 : decode code 260 = .ok (.iconst 1, 1) := by decide +kernel
theorem d_Law_law_261 : decode code 261 = .ok (.iadd, 1) := by decide +kernel
theorem d_Law_law_262 : decode code 262 = .ok (.iaload, 1) := by decide +kernel
theorem d_Law_law_263 : decode code 263 = .ok (.aload_n 0, 1) := by decide +kernel
theorem d_Law_law_264 : decode code 264 = .ok (.iload 4, 2) := by decide +kernel
theorem d_Law_law_266 : decode code 266 = .ok (.iconst 2, 1) := by decide +kernel
theorem d_Law_law_267 : decode code 267 = .ok (.iadd, 1) := by decide +kernel
theorem d_Law_law_268 : decode code 268 = .ok (.iaload, 1) := by decide +kernel
theorem d_Law_law_269 : decode code 269 = .ok (.aload_n 0, 1) := by decide +kernel
theorem d_Law_law_270 : decode code 270 = .ok (.iload 4, 2) := by decide +kernel
theorem d_Law_law_272 : decode code 272 = .ok (.iconst 3, 1) := by decide +kernel
theorem d_Law_law_273 : decode code 273 = .ok (.iadd, 1) := by decide +kernel
theorem d_Law_law_274 : decode code 274 = .ok (.iaload, 1) := by decide +kernel
theorem d_Law_law_275 : decode code 275 = .ok (.aload_n 3, 1) := by decide +kernel
theorem d_Law_law_276 : decode code 276 = .ok (.invokestatic 135, 3) := by decide +kernel
theorem d_Law_law_279 : decode code 279 = .ok (.istore 5, 2) := by decide +kernel
theorem d_Law_law_281 : decode code 281 = .ok (.aload_n 2, 1) := by decide +kernel
theorem d_Law_law_282 : decode code 282 = .ok (.aload_n 0, 1) := by decide +kernel
theorem d_Law_law_283 : decode code 283 = .ok (.iload 4, 2) := by decide +kernel
theorem d_Law_law_285 : decode code 285 = .ok (.iconst 1, 1) := by decide +kernel
theorem d_Law_law_286 : decode code 286 = .ok (.iadd, 1) := by decide +kernel
theorem d_Law_law_287 : decode code 287 = .ok (.iaload, 1) := by decide +kernel
theorem d_Law_law_288 : decode code 288 = .ok (.aload_n 0, 1) := by decide +kernel
theorem d_Law_law_289 : decode code 289 = .ok (.iload 4, 2) := by decide +kernel
theorem d_Law_law_291 : decode code 291 = .ok (.iconst 2, 1) := by decide +kernel
theorem d_Law_law_292 : decode code 292 = .ok (.iadd, 1) := by decide +kernel
theorem d_Law_law_293 : decode code 293 = .ok (.iaload, 1) := by decide +kernel
theorem d_Law_law_294 : decode code 294 = .ok (.aload_n 0, 1) := by decide +kernel
theorem d_Law_law_295 : decode code 295 = .ok (.iload 4, 2) := by decide +kernel
theorem d_Law_law_297 : decode code 297 = .ok (.iconst 3, 1) := by decide +kernel
theorem d_Law_law_298 : decode code 298 = .ok (.iadd, 1) := by decide +kernel
theorem d_Law_law_299 : decode code 299 = .ok (.iaload, 1) := by decide +kernel
theorem d_Law_law_300 : decode code 300 = .ok (.invokevirtual 138, 3) := by decide +kernel
theorem d_Law_law_303 : decode code 303 = .ok (.istore 6, 2) := by decide +kernel
theorem d_Law_law_305 : decode code 305 = .ok (.aload_n 2, 1) := by decide +kernel
theorem d_Law_law_306 : decode code 306 = .ok (.invokevirtual 132, 3) := by decide +kernel
theorem d_Law_law_309 : decode code 309 = .ok (.iload 5, 2) := by decide +kernel
theorem d_Law_law_311 : decode code 311 = .ok (.if_icmp .eq 5, 3) := by decide +kernel
theorem d_Law_law_316 : decode code 316 = .ok (.iload 5, 2) := by decide +kernel
theorem d_Law_law_318 : decode code 318 = .ok (.ifCond .ne 15, 3) := by decide +kernel
theorem d_Law_law_321 : decode code 321 = .ok (.aload_n 3, 1) := by decide +kernel
theorem d_Law_law_322 : decode code 322 = .ok (.iconst 0, 1) := by decide +kernel
theorem d_Law_law_323 : decode code 323 = .ok (.laload, 1) := by decide +kernel
theorem d_Law_law_324 : decode code 324 = .ok (.iload 6, 2) := by decide +kernel
theorem d_Law_law_326 : decode code 326 = .ok (.i2l, 1) := by decide +kernel
theorem d_Law_law_327 : decode code 327 = .ok (.lcmp, 1) := by decide +kernel
theorem d_Law_law_328 : decode code 328 = .ok (.ifCond .eq 5, 3) := by decide +kernel
theorem d_Law_law_333 : decode code 333 = .ok (.goto 2184, 3) := by decide +kernel
theorem d_Law_law_336 : decode code 336 = .ok (.aload_n 1, 1) := by decide +kernel
theorem d_Law_law_337 : decode code 337 = .ok (.aload_n 0, 1) := by decide +kernel
theorem d_Law_law_338 : decode code 338 = .ok (.iload 4, 2) := by decide +kernel
theorem d_Law_law_340 : decode code 340 = .ok (.iconst 1, 1) := by decide +kernel
theorem d_Law_law_341 : decode code 341 = .ok (.iadd, 1) := by decide +kernel
theorem d_Law_law_342 : decode code 342 = .ok (.iaload, 1) := by decide +kernel
theorem d_Law_law_343 : decode code 343 = .ok (.aload_n 0, 1) := by decide +kernel
theorem d_Law_law_344 : decode code 344 = .ok (.iload 4, 2) := by decide +kernel
theorem d_Law_law_346 : decode code 346 = .ok (.iconst 2, 1) := by decide +kernel
theorem d_Law_law_347 : decode code 347 = .ok (.iadd, 1) := by decide +kernel
theorem d_Law_law_348 : decode code 348 = .ok (.iaload, 1) := by decide +kernel
theorem d_Law_law_349 : decode code 349 = .ok (.aload_n 0, 1) := by decide +kernel
theorem d_Law_law_350 : decode code 350 = .ok (.iload 4, 2) := by decide +kernel
theorem d_Law_law_352 : decode code 352 = .ok (.iconst 3, 1) := by decide +kernel
theorem d_Law_law_353 : decode code 353 = .ok (.iadd, 1) := by decide +kernel
theorem d_Law_law_354 : decode code 354 = .ok (.iaload, 1) := by decide +kernel
theorem d_Law_law_355 : decode code 355 = .ok (.aload_n 0, 1) := by decide +kernel
theorem d_Law_law_356 : decode code 356 = .ok (.iload 4, 2) := by decide +kernel
theorem d_Law_law_358 : decode code 358 = .ok (.iconst 4, 1) := by decide +kernel
theorem d_Law_law_359 : decode code 359 = .ok (.iadd, 1) := by decide +kernel
theorem d_Law_law_360 : decode code 360 = .ok (.iaload, 1) := by decide +kernel
theorem d_Law_law_361 : decode code 361 = .ok (.aload_n 3, 1) := by decide +kernel
theorem d_Law_law_362 : decode code 362 = .ok (.invokestatic 139, 3) := by decide +kernel
theorem d_Law_law_365 : decode code 365 = .ok (.istore 5, 2) := by decide +kernel
theorem d_Law_law_367 : decode code 367 = .ok (.aload_n 2, 1) := by decide +kernel
theorem d_Law_law_368 : decode code 368 = .ok (.aload_n 0, 1) := by decide +kernel
theorem d_Law_law_369 : decode code 369 = .ok (.iload 4, 2) := by decide +kernel
theorem d_Law_law_371 : decode code 371 = .ok (.iconst 1, 1) := by decide +kernel
theorem d_Law_law_372 : decode code 372 = .ok (.iadd, 1) := by decide +kernel
theorem d_Law_law_373 : decode code 373 = .ok (.iaload, 1) := by decide +kernel
theorem d_Law_law_374 : decode code 374 = .ok (.aload_n 0, 1) := by decide +kernel
theorem d_Law_law_375 : decode code 375 = .ok (.iload 4, 2) := by decide +kernel
theorem d_Law_law_377 : decode code 377 = .ok (.iconst 2, 1) := by decide +kernel
theorem d_Law_law_378 : decode code 378 = .ok (.iadd, 1) := by decide +kernel
theorem d_Law_law_379 : decode code 379 = .ok (.iaload, 1) := by decide +kernel
theorem d_Law_law_380 : decode code 380 = .ok (.aload_n 0, 1) := by decide +kernel
theorem d_Law_law_381 : decode code 381 = .ok (.iload 4, 2) := by decide +kernel
theorem d_Law_law_383 : decode code 383 = .ok (.iconst 3, 1) := by decide +kernel
theorem d_Law_law_384 : decode code 384 = .ok (.iadd, 1) := by decide +kernel
theorem d_Law_law_385 : decode code 385 = .ok (.iaload, 1) := by decide +kernel
theorem d_Law_law_386 : decode code 386 = .ok (.aload_n 0, 1) := by decide +kernel
theorem d_Law_law_387 : decode code 387 = .ok (.iload 4, 2) := by decide +kernel
theorem d_Law_law_389 : decode code 389 = .ok (.iconst 4, 1) := by decide +kernel
theorem d_Law_law_390 : decode code 390 = .ok (.iadd, 1) := by decide +kernel
theorem d_Law_law_391 : decode code 391 = .ok (.iaload, 1) := by decide +kernel
theorem d_Law_law_392 : decode code 392 = .ok (.invokevirtual 142, 3) := by decide +kernel
theorem d_Law_law_395 : decode code 395 = .ok (.istore 6, 2) := by decide +kernel
theorem d_Law_law_397 : decode code 397 = .ok (.aload_n 2, 1) := by decide +kernel
theorem d_Law_law_398 : decode code 398 = .ok (.invokevirtual 132, 3) := by decide +kernel
theorem d_Law_law_401 : decode code 401 = .ok (.iload 5, 2) := by decide +kernel
theorem d_Law_law_403 : decode code 403 = .ok (.if_icmp .eq 5, 3) := by decide +kernel
theorem d_Law_law_408 : decode code 408 = .ok (.iload 5, 2) := by decide +kernel
theorem d_Law_law_410 : decode code 410 = .ok (.ifCond .ne 15, 3) := by decide +kernel
theorem d_Law_law_413 : decode code 413 = .ok (.aload_n 3, 1) := by decide +kernel
theorem d_Law_law_414 : decode code 414 = .ok (.iconst 0, 1) := by decide +kernel
theorem d_Law_law_415 : decode code 415 = .ok (.laload, 1) := by decide +kernel
theorem d_Law_law_416 : decode code 416 = .ok (.iload 6, 2) := by decide +kernel
theorem d_Law_law_418 : decode code 418 = .ok (.i2l, 1) := by decide +kernel
theorem d_Law_law_419 : decode code 419 = .ok (.lcmp, 1) := by decide +kernel
theorem d_Law_law_420 : decode code 420 = .ok (.ifCond .eq 5, 3) := by decide +kernel
theorem d_Law_law_425 : decode code 425 = .ok (.goto 2092, 3) := by decide +kernel
theorem d_Law_law_428 : decode code 428 = .ok (.aload_n 1, 1) := by decide +kernel
theorem d_Law_law_429 : decode code 429 = .ok (.aload_n 0, 1) := by decide +kernel
theorem d_Law_law_430 : decode code 430 = .ok (.iload 4, 2) := by decide +kernel
theorem d_Law_law_432 : decode code 432 = .ok (.iconst 1, 1) := by decide +kernel
theorem d_Law_law_433 : decode code 433 = .ok (.iadd, 1) := by decide +kernel
theorem d_Law_law_434 : decode code 434 = .ok (.iaload, 1) := by decide +kernel
theorem d_Law_law_435 : decode code 435 = .ok (.aload_n 0, 1) := by decide +kernel
theorem d_Law_law_436 : decode code 436 = .ok (.iload 4, 2) := by decide +kernel
theorem d_Law_law_438 : decode code 438 = .ok (.iconst 2, 1) := by decide +kernel
theorem d_Law_law_439 : decode code 439 = .ok (.iadd, 1) := by decide +kernel
theorem d_Law_law_440 : decode code 440 = .ok (.iaload, 1) := by decide +kernel
theorem d_Law_law_441 : decode code 441 = .ok (.aload_n 0, 1) := by decide +kernel
theorem d_Law_law_442 : decode code 442 = .ok (.iload 4, 2) := by decide +kernel
theorem d_Law_law_444 : decode code 444 = .ok (.iconst 3, 1) := by decide +kernel
theorem d_Law_law_445 : decode code 445 = .ok (.iadd, 1) := by decide +kernel
theorem d_Law_law_446 : decode code 446 = .ok (.iaload, 1) := by decide +kernel
theorem d_Law_law_447 : decode code 447 = .ok (.aload_n 3, 1) := by decide +kernel
theorem d_Law_law_448 : decode code 448 = .ok (.invokestatic 143, 3) := by decide +kernel
theorem d_Law_law_451 : decode code 451 = .ok (.istore 5, 2) := by decide +kernel
theorem d_Law_law_453 : decode code 453 = .ok (.aload_n 2, 1) := by decide +kernel
theorem d_Law_law_454 : decode code 454 = .ok (.aload_n 0, 1) := by decide +kernel
theorem d_Law_law_455 : decode code 455 = .ok (.iload 4, 2) := by decide +kernel
theorem d_Law_law_457 : decode code 457 = .ok (.iconst 1, 1) := by decide +kernel
theorem d_Law_law_458 : decode code 458 = .ok (.iadd, 1) := by decide +kernel
theorem d_Law_law_459 : decode code 459 = .ok (.iaload, 1) := by decide +kernel
theorem d_Law_law_460 : decode code 460 = .ok (.aload_n 0, 1) := by decide +kernel
theorem d_Law_law_461 : decode code 461 = .ok (.iload 4, 2) := by decide +kernel
theorem d_Law_law_463 : decode code 463 = .ok (.iconst 2, 1) := by decide +kernel
theorem d_Law_law_464 : decode code 464 = .ok (.iadd, 1) := by decide +kernel
theorem d_Law_law_465 : decode code 465 = .ok (.iaload, 1) := by decide +kernel
theorem d_Law_law_466 : decode code 466 = .ok (.aload_n 0, 1) := by decide +kernel
theorem d_Law_law_467 : decode code 467 = .ok (.iload 4, 2) := by decide +kernel
theorem d_Law_law_469 : decode code 469 = .ok (.iconst 3, 1) := by decide +kernel
theorem d_Law_law_470 : decode code 470 = .ok (.iadd, 1) := by decide +kernel
theorem d_Law_law_471 : decode code 471 = .ok (.iaload, 1) := by decide +kernel
theorem d_Law_law_472 : decode code 472 = .ok (.invokevirtual 145, 3) := by decide +kernel
theorem d_Law_law_475 : decode code 475 = .ok (.istore 6, 2) := by decide +kernel
theorem d_Law_law_477 : decode code 477 = .ok (.aload_n 2, 1) := by decide +kernel
theorem d_Law_law_478 : decode code 478 = .ok (.invokevirtual 132, 3) := by decide +kernel
theorem d_Law_law_481 : decode code 481 = .ok (.iload 5, 2) := by decide +kernel
theorem d_Law_law_483 : decode code 483 = .ok (.if_icmp .eq 5, 3) := by decide +kernel
theorem d_Law_law_488 : decode code 488 = .ok (.iload 5, 2) := by decide +kernel
theorem d_Law_law_490 : decode code 490 = .ok (.ifCond .ne 15, 3) := by decide +kernel
theorem d_Law_law_493 : decode code 493 = .ok (.aload_n 3, 1) := by decide +kernel
theorem d_Law_law_494 : decode code 494 = .ok (.iconst 0, 1) := by decide +kernel
theorem d_Law_law_495 : decode code 495 = .ok (.laload, 1) := by decide +kernel
theorem d_Law_law_496 : decode code 496 = .ok (.iload 6, 2) := by decide +kernel
theorem d_Law_law_498 : decode code 498 = .ok (.i2l, 1) := by decide +kernel
theorem d_Law_law_499 : decode code 499 = .ok (.lcmp, 1) := by decide +kernel
theorem d_Law_law_500 : decode code 500 = .ok (.ifCond .eq 5, 3) := by decide +kernel
theorem d_Law_law_505 : decode code 505 = .ok (.goto 2012, 3) := by decide +kernel
theorem d_Law_law_508 : decode code 508 = .ok (.aload_n 1, 1) := by decide +kernel
theorem d_Law_law_509 : decode code 509 = .ok (.aload_n 0, 1) := by decide +kernel
theorem d_Law_law_510 : decode code 510 = .ok (.iload 4, 2) := by decide +kernel
theorem d_Law_law_512 : decode code 512 = .ok (.iconst 1, 1) := by decide +kernel
theorem d_Law_law_513 : decode code 513 = .ok (.iadd, 1) := by decide +kernel
theorem d_Law_law_514 : decode code 514 = .ok (.iaload, 1) := by decide +kernel
theorem d_Law_law_515 : decode code 515 = .ok (.aload_n 0, 1) := by decide +kernel
theorem d_Law_law_516 : decode code 516 = .ok (.iload 4, 2) := by decide +kernel
theorem d_Law_law_518 : decode code 518 = .ok (.iconst 2, 1) := by decide +kernel
theorem d_Law_law_519 : decode code 519 = .ok (.iadd, 1) := by decide +kernel
theorem d_Law_law_520 : decode code 520 = .ok (.iaload, 1) := by decide +kernel
theorem d_Law_law_521 : decode code 521 = .ok (.aload_n 0, 1) := by decide +kernel
theorem d_Law_law_522 : decode code 522 = .ok (.iload 4, 2) := by decide +kernel
theorem d_Law_law_524 : decode code 524 = .ok (.iconst 3, 1) := by decide +kernel
theorem d_Law_law_525 : decode code 525 = .ok (.iadd, 1) := by decide +kernel
theorem d_Law_law_526 : decode code 526 = .ok (.iaload, 1) := by decide +kernel
theorem d_Law_law_527 : decode code 527 = .ok (.aload_n 0, 1) := by decide +kernel
theorem d_Law_law_528 : decode code 528 = .ok (.iload 4, 2) := by decide +kernel
theorem d_Law_law_530 : decode code 530 = .ok (.iconst 4, 1) := by decide +kernel
theorem d_Law_law_531 : decode code 531 = .ok (.iadd, 1) := by decide +kernel
theorem d_Law_law_532 : decode code 532 = .ok (.iaload, 1) := by decide +kernel
theorem d_Law_law_533 : decode code 533 = .ok (.aload_n 3, 1) := by decide +kernel
theorem d_Law_law_534 : decode code 534 = .ok (.invokestatic 146, 3) := by decide +kernel
theorem d_Law_law_537 : decode code 537 = .ok (.istore 5, 2) := by decide +kernel
theorem d_Law_law_539 : decode code 539 = .ok (.aload_n 2, 1) := by decide +kernel
theorem d_Law_law_540 : decode code 540 = .ok (.aload_n 0, 1) := by decide +kernel
theorem d_Law_law_541 : decode code 541 = .ok (.iload 4, 2) := by decide +kernel
theorem d_Law_law_543 : decode code 543 = .ok (.iconst 1, 1) := by decide +kernel
theorem d_Law_law_544 : decode code 544 = .ok (.iadd, 1) := by decide +kernel
theorem d_Law_law_545 : decode code 545 = .ok (.iaload, 1) := by decide +kernel
theorem d_Law_law_546 : decode code 546 = .ok (.aload_n 0, 1) := by decide +kernel
theorem d_Law_law_547 : decode code 547 = .ok (.iload 4, 2) := by decide +kernel
theorem d_Law_law_549 : decode code 549 = .ok (.iconst 2, 1) := by decide +kernel
theorem d_Law_law_550 : decode code 550 = .ok (.iadd, 1) := by decide +kernel
theorem d_Law_law_551 : decode code 551 = .ok (.iaload, 1) := by decide +kernel
theorem d_Law_law_552 : decode code 552 = .ok (.aload_n 0, 1) := by decide +kernel
theorem d_Law_law_553 : decode code 553 = .ok (.iload 4, 2) := by decide +kernel
theorem d_Law_law_555 : decode code 555 = .ok (.iconst 3, 1) := by decide +kernel
theorem d_Law_law_556 : decode code 556 = .ok (.iadd, 1) := by decide +kernel
theorem d_Law_law_557 : decode code 557 = .ok (.iaload, 1) := by decide +kernel
theorem d_Law_law_558 : decode code 558 = .ok (.aload_n 0, 1) := by decide +kernel
theorem d_Law_law_559 : decode code 559 = .ok (.iload 4, 2) := by decide +kernel
theorem d_Law_law_561 : decode code 561 = .ok (.iconst 4, 1) := by decide +kernel
theorem d_Law_law_562 : decode code 562 = .ok (.iadd, 1) := by decide +kernel
theorem d_Law_law_563 : decode code 563 = .ok (.iaload, 1) := by decide +kernel
theorem d_Law_law_564 : decode code 564 = .ok (.invokevirtual 148, 3) := by decide +kernel
theorem d_Law_law_567 : decode code 567 = .ok (.istore 6, 2) := by decide +kernel
theorem d_Law_law_569 : decode code 569 = .ok (.aload_n 2, 1) := by decide +kernel
theorem d_Law_law_570 : decode code 570 = .ok (.invokevirtual 132, 3) := by decide +kernel
theorem d_Law_law_573 : decode code 573 = .ok (.iload 5, 2) := by decide +kernel
theorem d_Law_law_575 : decode code 575 = .ok (.if_icmp .eq 5, 3) := by decide +kernel
theorem d_Law_law_580 : decode code 580 = .ok (.iload 5, 2) := by decide +kernel
theorem d_Law_law_582 : decode code 582 = .ok (.ifCond .ne 15, 3) := by decide +kernel
theorem d_Law_law_585 : decode code 585 = .ok (.aload_n 3, 1) := by decide +kernel
theorem d_Law_law_586 : decode code 586 = .ok (.iconst 0, 1) := by decide +kernel
theorem d_Law_law_587 : decode code 587 = .ok (.laload, 1) := by decide +kernel
theorem d_Law_law_588 : decode code 588 = .ok (.iload 6, 2) := by decide +kernel
theorem d_Law_law_590 : decode code 590 = .ok (.i2l, 1) := by decide +kernel
theorem d_Law_law_591 : decode code 591 = .ok (.lcmp, 1) := by decide +kernel
theorem d_Law_law_592 : decode code 592 = .ok (.ifCond .eq 5, 3) := by decide +kernel
theorem d_Law_law_597 : decode code 597 = .ok (.goto 1920, 3) := by decide +kernel
theorem d_Law_law_600 : decode code 600 = .ok (.aload_n 1, 1) := by decide +kernel
theorem d_Law_law_601 : decode code 601 = .ok (.aload_n 0, 1) := by decide +kernel
theorem d_Law_law_602 : decode code 602 = .ok (.iload 4, 2) := by decide +kernel
theorem d_Law_law_604 : decode code 604 = .ok (.iconst 1, 1) := by decide +kernel
theorem d_Law_law_605 : decode code 605 = .ok (.iadd, 1) := by decide +kernel
theorem d_Law_law_606 : decode code 606 = .ok (.iaload, 1) := by decide +kernel
theorem d_Law_law_607 : decode code 607 = .ok (.aload_n 0, 1) := by decide +kernel
theorem d_Law_law_608 : decode code 608 = .ok (.iload 4, 2) := by decide +kernel
theorem d_Law_law_610 : decode code 610 = .ok (.iconst 2, 1) := by decide +kernel
theorem d_Law_law_611 : decode code 611 = .ok (.iadd, 1) := by decide +kernel
theorem d_Law_law_612 : decode code 612 = .ok (.iaload, 1) := by decide +kernel
theorem d_Law_law_613 : decode code 613 = .ok (.aload_n 0, 1) := by decide +kernel
theorem d_Law_law_614 : decode code 614 = .ok (.iload 4, 2) := by decide +kernel
theorem d_Law_law_616 : decode code 616 = .ok (.iconst 3, 1) := by decide +kernel
theorem d_Law_law_617 : decode code 617 = .ok (.iadd, 1) := by decide +kernel
theorem d_Law_law_618 : decode code 618 = .ok (.iaload, 1) := by decide +kernel
theorem d_Law_law_619 : decode code 619 = .ok (.aload_n 0, 1) := by decide +kernel
theorem d_Law_law_620 : decode code 620 = .ok (.iload 4, 2) := by decide +kernel
theorem d_Law_law_622 : decode code 622 = .ok (.iconst 4, 1) := by decide +kernel
theorem d_Law_law_623 : decode code 623 = .ok (.iadd, 1) := by decide +kernel
theorem d_Law_law_624 : decode code 624 = .ok (.iaload, 1) := by decide +kernel
theorem d_Law_law_625 : decode code 625 = .ok (.aload_n 3, 1) := by decide +kernel
theorem d_Law_law_626 : decode code 626 = .ok (.invokestatic 149, 3) := by decide +kernel
theorem d_Law_law_629 : decode code 629 = .ok (.istore 5, 2) := by decide +kernel
theorem d_Law_law_631 : decode code 631 = .ok (.aload_n 2, 1) := by decide +kernel
theorem d_Law_law_632 : decode code 632 = .ok (.aload_n 0, 1) := by decide +kernel
theorem d_Law_law_633 : decode code 633 = .ok (.iload 4, 2) := by decide +kernel
theorem d_Law_law_635 : decode code 635 = .ok (.iconst 1, 1) := by decide +kernel
theorem d_Law_law_636 : decode code 636 = .ok (.iadd, 1) := by decide +kernel
theorem d_Law_law_637 : decode code 637 = .ok (.iaload, 1) := by decide +kernel
theorem d_Law_law_638 : decode code 638 = .ok (.aload_n 0, 1) := by decide +kernel
theorem d_Law_law_639 : decode code 639 = .ok (.iload 4, 2) := by decide +kernel
theorem d_Law_law_641 : decode code 641 = .ok (.iconst 2, 1) := by decide +kernel
theorem d_Law_law_642 : decode code 642 = .ok (.iadd, 1) := by decide +kernel
theorem d_Law_law_643 : decode code 643 = .ok (.iaload, 1) := by decide +kernel
theorem d_Law_law_644 : decode code 644 = .ok (.aload_n 0, 1) := by decide +kernel
theorem d_Law_law_645 : decode code 645 = .ok (.iload 4, 2) := by decide +kernel
theorem d_Law_law_647 : decode code 647 = .ok (.iconst 3, 1) := by decide +kernel
theorem d_Law_law_648 : decode code 648 = .ok (.iadd, 1) := by decide +kernel
theorem d_Law_law_649 : decode code 649 = .ok (.iaload, 1) := by decide +kernel
theorem d_Law_law_650 : decode code 650 = .ok (.aload_n 0, 1) := by decide +kernel
theorem d_Law_law_651 : decode code 651 = .ok (.iload 4, 2) := by decide +kernel
theorem d_Law_law_653 : decode code 653 = .ok (.iconst 4, 1) := by decide +kernel
theorem d_Law_law_654 : decode code 654 = .ok (.iadd, 1) := by decide +kernel
theorem d_Law_law_655 : decode code 655 = .ok (.iaload, 1) := by decide +kernel
theorem d_Law_law_656 : decode code 656 = .ok (.invokevirtual 151, 3) := by decide +kernel
theorem d_Law_law_659 : decode code 659 = .ok (.istore 6, 2) := by decide +kernel
theorem d_Law_law_661 : decode code 661 = .ok (.aload_n 2, 1) := by decide +kernel
theorem d_Law_law_662 : decode code 662 = .ok (.invokevirtual 132, 3) := by decide +kernel
theorem d_Law_law_665 : decode code 665 = .ok (.iload 5, 2) := by decide +kernel
theorem d_Law_law_667 : decode code 667 = .ok (.if_icmp .eq 5, 3) := by decide +kernel
theorem d_Law_law_672 : decode code 672 = .ok (.iload 5, 2) := by decide +kernel
theorem d_Law_law_674 : decode code 674 = .ok (.ifCond .ne 15, 3) := by decide +kernel
theorem d_Law_law_677 : decode code 677 = .ok (.aload_n 3, 1) := by decide +kernel
theorem d_Law_law_678 : decode code 678 = .ok (.iconst 0, 1) := by decide +kernel
theorem d_Law_law_679 : decode code 679 = .ok (.laload, 1) := by decide +kernel
theorem d_Law_law_680 : decode code 680 = .ok (.iload 6, 2) := by decide +kernel
theorem d_Law_law_682 : decode code 682 = .ok (.i2l, 1) := by decide +kernel
theorem d_Law_law_683 : decode code 683 = .ok (.lcmp, 1) := by decide +kernel
theorem d_Law_law_684 : decode code 684 = .ok (.ifCond .eq 5, 3) := by decide +kernel
theorem d_Law_law_689 : decode code 689 = .ok (.goto 1828, 3) := by decide +kernel
theorem d_Law_law_692 : decode code 692 = .ok (.aload_n 1, 1) := by decide +kernel
theorem d_Law_law_693 : decode code 693 = .ok (.aload_n 0, 1) := by decide +kernel
theorem d_Law_law_694 : decode code 694 = .ok (.iload 4, 2) := by decide +kernel
theorem d_Law_law_696 : decode code 696 = .ok (.iconst 1, 1) := by decide +kernel
theorem d_Law_law_697 : decode code 697 = .ok (.iadd, 1) := by decide +kernel
theorem d_Law_law_698 : decode code 698 = .ok (.iaload, 1) := by decide +kernel
theorem d_Law_law_699 : decode code 699 = .ok (.aload_n 0, 1) := by decide +kernel
theorem d_Law_law_700 : decode code 700 = .ok (.iload 4, 2) := by decide +kernel
theorem d_Law_law_702 : decode code 702 = .ok (.iconst 2, 1) := by decide +kernel
theorem d_Law_law_703 : decode code 703 = .ok (.iadd, 1) := by decide +kernel
theorem d_Law_law_704 : decode code 704 = .ok (.iaload, 1) := by decide +kernel
theorem d_Law_law_705 : decode code 705 = .ok (.aload_n 0, 1) := by decide +kernel
theorem d_Law_law_706 : decode code 706 = .ok (.iload 4, 2) := by decide +kernel
theorem d_Law_law_708 : decode code 708 = .ok (.iconst 3, 1) := by decide +kernel
theorem d_Law_law_709 : decode code 709 = .ok (.iadd, 1) := by decide +kernel
theorem d_Law_law_710 : decode code 710 = .ok (.iaload, 1) := by decide +kernel
theorem d_Law_law_711 : decode code 711 = .ok (.aload_n 0, 1) := by decide +kernel
theorem d_Law_law_712 : decode code 712 = .ok (.iload 4, 2) := by decide +kernel
theorem d_Law_law_714 : decode code 714 = .ok (.iconst 4, 1) := by decide +kernel
theorem d_Law_law_715 : decode code 715 = .ok (.iadd, 1) := by decide +kernel
theorem d_Law_law_716 : decode code 716 = .ok (.iaload, 1) := by decide +kernel
theorem d_Law_law_717 : decode code 717 = .ok (.aload_n 3, 1) := by decide +kernel
theorem d_Law_law_718 : decode code 718 = .ok (.invokestatic 152, 3) := by decide +kernel
theorem d_Law_law_721 : decode code 721 = .ok (.istore 5, 2) := by decide +kernel
theorem d_Law_law_723 : decode code 723 = .ok (.aload_n 2, 1) := by decide +kernel
theorem d_Law_law_724 : decode code 724 = .ok (.aload_n 0, 1) := by decide +kernel
theorem d_Law_law_725 : decode code 725 = .ok (.iload 4, 2) := by decide +kernel
theorem d_Law_law_727 : decode code 727 = .ok (.iconst 1, 1) := by decide +kernel
theorem d_Law_law_728 : decode code 728 = .ok (.iadd, 1) := by decide +kernel
theorem d_Law_law_729 : decode code 729 = .ok (.iaload, 1) := by decide +kernel
theorem d_Law_law_730 : decode code 730 = .ok (.aload_n 0, 1) := by decide +kernel
theorem d_Law_law_731 : decode code 731 = .ok (.iload 4, 2) := by decide +kernel
theorem d_Law_law_733 : decode code 733 = .ok (.iconst 2, 1) := by decide +kernel
theorem d_Law_law_734 : decode code 734 = .ok (.iadd, 1) := by decide +kernel
theorem d_Law_law_735 : decode code 735 = .ok (.iaload, 1) := by decide +kernel
theorem d_Law_law_736 : decode code 736 = .ok (.aload_n 0, 1) := by decide +kernel
theorem d_Law_law_737 : decode code 737 = .ok (.iload 4, 2) := by decide +kernel
theorem d_Law_law_739 : decode code 739 = .ok (.iconst 3, 1) := by decide +kernel
theorem d_Law_law_740 : decode code 740 = .ok (.iadd, 1) := by decide +kernel
theorem d_Law_law_741 : decode code 741 = .ok (.iaload, 1) := by decide +kernel
theorem d_Law_law_742 : decode code 742 = .ok (.aload_n 0, 1) := by decide +kernel
theorem d_Law_law_743 : decode code 743 = .ok (.iload 4, 2) := by decide +kernel
theorem d_Law_law_745 : decode code 745 = .ok (.iconst 4, 1) := by decide +kernel
theorem d_Law_law_746 : decode code 746 = .ok (.iadd, 1) := by decide +kernel
theorem d_Law_law_747 : decode code 747 = .ok (.iaload, 1) := by decide +kernel
theorem d_Law_law_748 : decode code 748 = .ok (.invokevirtual 154, 3) := by decide +kernel
theorem d_Law_law_751 : decode code 751 = .ok (.istore 6, 2) := by decide +kernel
theorem d_Law_law_753 : decode code 753 = .ok (.aload_n 2, 1) := by decide +kernel
theorem d_Law_law_754 : decode code 754 = .ok (.invokevirtual 132, 3) := by decide +kernel
theorem d_Law_law_757 : decode code 757 = .ok (.iload 5, 2) := by decide +kernel
theorem d_Law_law_759 : decode code 759 = .ok (.if_icmp .eq 5, 3) := by decide +kernel
theorem d_Law_law_764 : decode code 764 = .ok (.iload 5, 2) := by decide +kernel
theorem d_Law_law_766 : decode code 766 = .ok (.ifCond .ne 15, 3) := by decide +kernel
theorem d_Law_law_769 : decode code 769 = .ok (.aload_n 3, 1) := by decide +kernel
theorem d_Law_law_770 : decode code 770 = .ok (.iconst 0, 1) := by decide +kernel
theorem d_Law_law_771 : decode code 771 = .ok (.laload, 1) := by decide +kernel
theorem d_Law_law_772 : decode code 772 = .ok (.iload 6, 2) := by decide +kernel
theorem d_Law_law_774 : decode code 774 = .ok (.i2l, 1) := by decide +kernel
theorem d_Law_law_775 : decode code 775 = .ok (.lcmp, 1) := by decide +kernel
theorem d_Law_law_776 : decode code 776 = .ok (.ifCond .eq 5, 3) := by decide +kernel
theorem d_Law_law_781 : decode code 781 = .ok (.goto 1736, 3) := by decide +kernel
theorem d_Law_law_784 : decode code 784 = .ok (.aload_n 1, 1) := by decide +kernel
theorem d_Law_law_785 : decode code 785 = .ok (.aload_n 0, 1) := by decide +kernel
theorem d_Law_law_786 : decode code 786 = .ok (.iload 4, 2) := by decide +kernel
theorem d_Law_law_788 : decode code 788 = .ok (.iconst 1, 1) := by decide +kernel
theorem d_Law_law_789 : decode code 789 = .ok (.iadd, 1) := by decide +kernel
theorem d_Law_law_790 : decode code 790 = .ok (.iaload, 1) := by decide +kernel
theorem d_Law_law_791 : decode code 791 = .ok (.aload_n 0, 1) := by decide +kernel
theorem d_Law_law_792 : decode code 792 = .ok (.iload 4, 2) := by decide +kernel
theorem d_Law_law_794 : decode code 794 = .ok (.iconst 2, 1) := by decide +kernel
theorem d_Law_law_795 : decode code 795 = .ok (.iadd, 1) := by decide +kernel
theorem d_Law_law_796 : decode code 796 = .ok (.iaload, 1) := by decide +kernel
theorem d_Law_law_797 : decode code 797 = .ok (.aload_n 3, 1) := by decide +kernel
theorem d_Law_law_798 : decode code 798 = .ok (.invokestatic 155, 3) := by decide +kernel
theorem d_Law_law_801 : decode code 801 = .ok (.istore 5, 2) := by decide +kernel
theorem d_Law_law_803 : decode code 803 = .ok (.aload_n 2, 1) := by decide +kernel
theorem d_Law_law_804 : decode code 804 = .ok (.aload_n 0, 1) := by decide +kernel
theorem d_Law_law_805 : decode code 805 = .ok (.iload 4, 2) := by decide +kernel
theorem d_Law_law_807 : decode code 807 = .ok (.iconst 1, 1) := by decide +kernel
theorem d_Law_law_808 : decode code 808 = .ok (.iadd, 1) := by decide +kernel
theorem d_Law_law_809 : decode code 809 = .ok (.iaload, 1) := by decide +kernel
theorem d_Law_law_810 : decode code 810 = .ok (.aload_n 0, 1) := by decide +kernel
theorem d_Law_law_811 : decode code 811 = .ok (.iload 4, 2) := by decide +kernel
theorem d_Law_law_813 : decode code 813 = .ok (.iconst 2, 1) := by decide +kernel
theorem d_Law_law_814 : decode code 814 = .ok (.iadd, 1) := by decide +kernel
theorem d_Law_law_815 : decode code 815 = .ok (.iaload, 1) := by decide +kernel
theorem d_Law_law_816 : decode code 816 = .ok (.invokevirtual 157, 3) := by decide +kernel
theorem d_Law_law_819 : decode code 819 = .ok (.istore 6, 2) := by decide +kernel
theorem d_Law_law_821 : decode code 821 = .ok (.aload_n 2, 1) := by decide +kernel
theorem d_Law_law_822 : decode code 822 = .ok (.invokevirtual 132, 3) := by decide +kernel
theorem d_Law_law_825 : decode code 825 = .ok (.iload 5, 2) := by decide +kernel
theorem d_Law_law_827 : decode code 827 = .ok (.if_icmp .eq 5, 3) := by decide +kernel
theorem d_Law_law_832 : decode code 832 = .ok (.iload 5, 2) := by decide +kernel
theorem d_Law_law_834 : decode code 834 = .ok (.ifCond .ne 15, 3) := by decide +kernel
theorem d_Law_law_837 : decode code 837 = .ok (.aload_n 3, 1) := by decide +kernel
theorem d_Law_law_838 : decode code 838 = .ok (.iconst 0, 1) := by decide +kernel
theorem d_Law_law_839 : decode code 839 = .ok (.laload, 1) := by decide +kernel
theorem d_Law_law_840 : decode code 840 = .ok (.iload 6, 2) := by decide +kernel
theorem d_Law_law_842 : decode code 842 = .ok (.i2l, 1) := by decide +kernel
theorem d_Law_law_843 : decode code 843 = .ok (.lcmp, 1) := by decide +kernel
theorem d_Law_law_844 : decode code 844 = .ok (.ifCond .eq 5, 3) := by decide +kernel
theorem d_Law_law_849 : decode code 849 = .ok (.goto 1668, 3) := by decide +kernel
theorem d_Law_law_852 : decode code 852 = .ok (.aload_n 1, 1) := by decide +kernel
theorem d_Law_law_853 : decode code 853 = .ok (.aload_n 0, 1) := by decide +kernel
theorem d_Law_law_854 : decode code 854 = .ok (.iload 4, 2) := by decide +kernel
theorem d_Law_law_856 : decode code 856 = .ok (.iconst 1, 1) := by decide +kernel
theorem d_Law_law_857 : decode code 857 = .ok (.iadd, 1) := by decide +kernel
theorem d_Law_law_858 : decode code 858 = .ok (.iaload, 1) := by decide +kernel
theorem d_Law_law_859 : decode code 859 = .ok (.aload_n 0, 1) := by decide +kernel
theorem d_Law_law_860 : decode code 860 = .ok (.iload 4, 2) := by decide +kernel
theorem d_Law_law_862 : decode code 862 = .ok (.iconst 2, 1) := by decide +kernel
theorem d_Law_law_863 : decode code 863 = .ok (.iadd, 1) := by decide +kernel
theorem d_Law_law_864 : decode code 864 = .ok (.iaload, 1) := by decide +kernel
theorem d_Law_law_865 : decode code 865 = .ok (.aload_n 0, 1) := by decide +kernel
theorem d_Law_law_866 : decode code 866 = .ok (.iload 4, 2) := by decide +kernel
theorem d_Law_law_868 : decode code 868 = .ok (.iconst 3, 1) := by decide +kernel
theorem d_Law_law_869 : decode code 869 = .ok (.iadd, 1) := by decide +kernel
theorem d_Law_law_870 : decode code 870 = .ok (.iaload, 1) := by decide +kernel
theorem d_Law_law_871 : decode code 871 = .ok (.aload_n 3, 1) := by decide +kernel
theorem d_Law_law_872 : decode code 872 = .ok (.invokestatic 158, 3) := by decide +kernel
theorem d_Law_law_875 : decode code 875 = .ok (.istore 5, 2) := by decide +kernel
theorem d_Law_law_877 : decode code 877 = .ok (.aload_n 2, 1) := by decide +kernel
theorem d_Law_law_878 : decode code 878 = .ok (.aload_n 0, 1) := by decide +kernel
theorem d_Law_law_879 : decode code 879 = .ok (.iload 4, 2) := by decide +kernel
theorem d_Law_law_881 : decode code 881 = .ok (.iconst 1, 1) := by decide +kernel
theorem d_Law_law_882 : decode code 882 = .ok (.iadd, 1) := by decide +kernel
theorem d_Law_law_883 : decode code 883 = .ok (.iaload, 1) := by decide +kernel
theorem d_Law_law_884 : decode code 884 = .ok (.aload_n 0, 1) := by decide +kernel
theorem d_Law_law_885 : decode code 885 = .ok (.iload 4, 2) := by decide +kernel
theorem d_Law_law_887 : decode code 887 = .ok (.iconst 2, 1) := by decide +kernel
theorem d_Law_law_888 : decode code 888 = .ok (.iadd, 1) := by decide +kernel
theorem d_Law_law_889 : decode code 889 = .ok (.iaload, 1) := by decide +kernel
theorem d_Law_law_890 : decode code 890 = .ok (.aload_n 0, 1) := by decide +kernel
theorem d_Law_law_891 : decode code 891 = .ok (.iload 4, 2) := by decide +kernel
theorem d_Law_law_893 : decode code 893 = .ok (.iconst 3, 1) := by decide +kernel
theorem d_Law_law_894 : decode code 894 = .ok (.iadd, 1) := by decide +kernel
theorem d_Law_law_895 : decode code 895 = .ok (.iaload, 1) := by decide +kernel
theorem d_Law_law_896 : decode code 896 = .ok (.invokevirtual 160, 3) := by decide +kernel
theorem d_Law_law_899 : decode code 899 = .ok (.istore 6, 2) := by decide +kernel
theorem d_Law_law_901 : decode code 901 = .ok (.aload_n 2, 1) := by decide +kernel
theorem d_Law_law_902 : decode code 902 = .ok (.invokevirtual 132, 3) := by decide +kernel
theorem d_Law_law_905 : decode code 905 = .ok (.iload 5, 2) := by decide +kernel
theorem d_Law_law_907 : decode code 907 = .ok (.if_icmp .eq 5, 3) := by decide +kernel
theorem d_Law_law_912 : decode code 912 = .ok (.iload 5, 2) := by decide +kernel
theorem d_Law_law_914 : decode code 914 = .ok (.ifCond .ne 15, 3) := by decide +kernel
theorem d_Law_law_917 : decode code 917 = .ok (.aload_n 3, 1) := by decide +kernel
theorem d_Law_law_918 : decode code 918 = .ok (.iconst 0, 1) := by decide +kernel
theorem d_Law_law_919 : decode code 919 = .ok (.laload, 1) := by decide +kernel
theorem d_Law_law_920 : decode code 920 = .ok (.iload 6, 2) := by decide +kernel
theorem d_Law_law_922 : decode code 922 = .ok (.i2l, 1) := by decide +kernel
theorem d_Law_law_923 : decode code 923 = .ok (.lcmp, 1) := by decide +kernel
theorem d_Law_law_924 : decode code 924 = .ok (.ifCond .eq 5, 3) := by decide +kernel
theorem d_Law_law_929 : decode code 929 = .ok (.goto 1588, 3) := by decide +kernel
theorem d_Law_law_932 : decode code 932 = .ok (.aload_n 1, 1) := by decide +kernel
theorem d_Law_law_933 : decode code 933 = .ok (.aload_n 0, 1) := by decide +kernel
theorem d_Law_law_934 : decode code 934 = .ok (.iload 4, 2) := by decide +kernel
theorem d_Law_law_936 : decode code 936 = .ok (.iconst 1, 1) := by decide +kernel
theorem d_Law_law_937 : decode code 937 = .ok (.iadd, 1) := by decide +kernel
theorem d_Law_law_938 : decode code 938 = .ok (.iaload, 1) := by decide +kernel
theorem d_Law_law_939 : decode code 939 = .ok (.aload_n 0, 1) := by decide +kernel
theorem d_Law_law_940 : decode code 940 = .ok (.iload 4, 2) := by decide +kernel
theorem d_Law_law_942 : decode code 942 = .ok (.iconst 2, 1) := by decide +kernel
theorem d_Law_law_943 : decode code 943 = .ok (.iadd, 1) := by decide +kernel
theorem d_Law_law_944 : decode code 944 = .ok (.iaload, 1) := by decide +kernel
theorem d_Law_law_945 : decode code 945 = .ok (.aload_n 0, 1) := by decide +kernel
theorem d_Law_law_946 : decode code 946 = .ok (.iload 4, 2) := by decide +kernel
theorem d_Law_law_948 : decode code 948 = .ok (.iconst 3, 1) := by decide +kernel
theorem d_Law_law_949 : decode code 949 = .ok (.iadd, 1) := by decide +kernel
theorem d_Law_law_950 : decode code 950 = .ok (.iaload, 1) := by decide +kernel
theorem d_Law_law_951 : decode code 951 = .ok (.aload_n 3, 1) := by decide +kernel
theorem d_Law_law_952 : decode code 952 = .ok (.invokestatic 161, 3) := by decide +kernel
theorem d_Law_law_955 : decode code 955 = .ok (.istore 5, 2) := by decide +kernel
theorem d_Law_law_957 : decode code 957 = .ok (.aload_n 2, 1) := by decide +kernel
theorem d_Law_law_958 : decode code 958 = .ok (.aload_n 0, 1) := by decide +kernel
theorem d_Law_law_959 : decode code 959 = .ok (.iload 4, 2) := by decide +kernel
theorem d_Law_law_961 : decode code 961 = .ok (.iconst 1, 1) := by decide +kernel
theorem d_Law_law_962 : decode code 962 = .ok (.iadd, 1) := by decide +kernel
theorem d_Law_law_963 : decode code 963 = .ok (.iaload, 1) := by decide +kernel
theorem d_Law_law_964 : decode code 964 = .ok (.aload_n 0, 1) := by decide +kernel
theorem d_Law_law_965 : decode code 965 = .ok (.iload 4, 2) := by decide +kernel
theorem d_Law_law_967 : decode code 967 = .ok (.iconst 2, 1) := by decide +kernel
theorem d_Law_law_968 : decode code 968 = .ok (.iadd, 1) := by decide +kernel
theorem d_Law_law_969 : decode code 969 = .ok (.iaload, 1) := by decide +kernel
theorem d_Law_law_970 : decode code 970 = .ok (.aload_n 0, 1) := by decide +kernel
theorem d_Law_law_971 : decode code 971 = .ok (.iload 4, 2) := by decide +kernel
theorem d_Law_law_973 : decode code 973 = .ok (.iconst 3, 1) := by decide +kernel
theorem d_Law_law_974 : decode code 974 = .ok (.iadd, 1) := by decide +kernel
theorem d_Law_law_975 : decode code 975 = .ok (.iaload, 1) := by decide +kernel
theorem d_Law_law_976 : decode code 976 = .ok (.invokevirtual 163, 3) := by decide +kernel
theorem d_Law_law_979 : decode code 979 = .ok (.istore 6, 2) := by decide +kernel
theorem d_Law_law_981 : decode code 981 = .ok (.aload_n 2, 1) := by decide +kernel
theorem d_Law_law_982 : decode code 982 = .ok (.invokevirtual 132, 3) := by decide +kernel
theorem d_Law_law_985 : decode code 985 = .ok (.iload 5, 2) := by decide +kernel
theorem d_Law_law_987 : decode code 987 = .ok (.if_icmp .eq 5, 3) := by decide +kernel
theorem d_Law_law_992 : decode code 992 = .ok (.iload 5, 2) := by decide +kernel
theorem d_Law_law_994 : decode code 994 = .ok (.ifCond .ne 15, 3) := by decide +kernel
theorem d_Law_law_997 : decode code 997 = .ok (.aload_n 3, 1) := by decide +kernel
theorem d_Law_law_998 : decode code 998 = .ok (.iconst 0, 1) := by decide +kernel
theorem d_Law_law_999 : decode code 999 = .ok (.laload, 1) := by decide +kernel
theorem d_Law_law_1000 : decode code 1000 = .ok (.iload 6, 2) := by decide +kernel
theorem d_Law_law_1002 : decode code 1002 = .ok (.i2l, 1) := by decide +kernel
theorem d_Law_law_1003 : decode code 1003 = .ok (.lcmp, 1) := by decide +kernel
theorem d_Law_law_1004 : decode code 1004 = .ok (.ifCond .eq 5, 3) := by decide +kernel
theorem d_Law_law_1009 : decode code 1009 = .ok (.goto 1508, 3) := by decide +kernel
theorem d_Law_law_1012 : decode code 1012 = .ok (.aload_n 1, 1) := by decide +kernel
theorem d_Law_law_1013 : decode code 1013 = .ok (.aload_n 0, 1) := by decide +kernel
theorem d_Law_law_1014 : decode code 1014 = .ok (.iload 4, 2) := by decide +kernel
theorem d_Law_law_1016 : decode code 1016 = .ok (.iconst 1, 1) := by decide +kernel
theorem d_Law_law_1017 : decode code 1017 = .ok (.iadd, 1) := by decide +kernel
theorem d_Law_law_1018 : decode code 1018 = .ok (.iaload, 1) := by decide +kernel
theorem d_Law_law_1019 : decode code 1019 = .ok (.aload_n 0, 1) := by decide +kernel
theorem d_Law_law_1020 : decode code 1020 = .ok (.iload 4, 2) := by decide +kernel
theorem d_Law_law_1022 : decode code 1022 = .ok (.iconst 2, 1) := by decide +kernel
theorem d_Law_law_1023 : decode code 1023 = .ok (.iadd, 1) := by decide +kernel
theorem d_Law_law_1024 : decode code 1024 = .ok (.iaload, 1) := by decide +kernel
theorem d_Law_law_1025 : decode code 1025 = .ok (.aload_n 3, 1) := by decide +kernel
theorem d_Law_law_1026 : decode code 1026 = .ok (.invokestatic 164, 3) := by decide +kernel
theorem d_Law_law_1029 : decode code 1029 = .ok (.istore 5, 2) := by decide +kernel
theorem d_Law_law_1031 : decode code 1031 = .ok (.aload_n 2, 1) := by decide +kernel
theorem d_Law_law_1032 : decode code 1032 = .ok (.aload_n 0, 1) := by decide +kernel
theorem d_Law_law_1033 : decode code 1033 = .ok (.iload 4, 2) := by decide +kernel
theorem d_Law_law_1035 : decode code 1035 = .ok (.iconst 1, 1) := by decide +kernel
theorem d_Law_law_1036 : decode code 1036 = .ok (.iadd, 1) := by decide +kernel
theorem d_Law_law_1037 : decode code 1037 = .ok (.iaload, 1) := by decide +kernel
theorem d_Law_law_1038 : decode code 1038 = .ok (.aload_n 0, 1) := by decide +kernel
theorem d_Law_law_1039 : decode code 1039 = .ok (.iload 4, 2) := by decide +kernel
theorem d_Law_law_1041 : decode code 1041 = .ok (.iconst 2, 1) := by decide +kernel
theorem d_Law_law_1042 : decode code 1042 = .ok (.iadd, 1) := by decide +kernel
theorem d_Law_law_1043 : decode code 1043 = .ok (.iaload, 1) := by decide +kernel
theorem d_Law_law_1044 : decode code 1044 = .ok (.invokevirtual 166, 3) := by decide +kernel
theorem d_Law_law_1047 : decode code 1047 = .ok (.istore 6, 2) := by decide +kernel
theorem d_Law_law_1049 : decode code 1049 = .ok (.aload_n 2, 1) := by decide +kernel
theorem d_Law_law_1050 : decode code 1050 = .ok (.invokevirtual 132, 3) := by decide +kernel
theorem d_Law_law_1053 : decode code 1053 = .ok (.iload 5, 2) := by decide +kernel
theorem d_Law_law_1055 : decode code 1055 = .ok (.if_icmp .eq 5, 3) := by decide +kernel
theorem d_Law_law_1060 : decode code 1060 = .ok (.iload 5, 2) := by decide +kernel
theorem d_Law_law_1062 : decode code 1062 = .ok (.ifCond .ne 15, 3) := by decide +kernel
theorem d_Law_law_1065 : decode code 1065 = .ok (.aload_n 3, 1) := by decide +kernel
theorem d_Law_law_1066 : decode code 1066 = .ok (.iconst 0, 1) := by decide +kernel
theorem d_Law_law_1067 : decode code 1067 = .ok (.laload, 1) := by decide +kernel
theorem d_Law_law_1068 : decode code 1068 = .ok (.iload 6, 2) := by decide +kernel
theorem d_Law_law_1070 : decode code 1070 = .ok (.i2l, 1) := by decide +kernel
theorem d_Law_law_1071 : decode code 1071 = .ok (.lcmp, 1) := by decide +kernel
theorem d_Law_law_1072 : decode code 1072 = .ok (.ifCond .eq 5, 3) := by decide +kernel
theorem d_Law_law_1077 : decode code 1077 = .ok (.goto 1440, 3) := by decide +kernel
theorem d_Law_law_1080 : decode code 1080 = .ok (.aload_n 1, 1) := by decide +kernel
theorem d_Law_law_1081 : decode code 1081 = .ok (.aload_n 0, 1) := by decide +kernel
theorem d_Law_law_1082 : decode code 1082 = .ok (.iload 4, 2) := by decide +kernel
theorem d_Law_law_1084 : decode code 1084 = .ok (.iconst 1, 1) := by decide +kernel
theorem d_Law_law_1085 : decode code 1085 = .ok (.iadd, 1) := by decide +kernel
theorem d_Law_law_1086 : decode code 1086 = .ok (.iaload, 1) := by decide +kernel
theorem d_Law_law_1087 : decode code 1087 = .ok (.aload_n 0, 1) := by decide +kernel
theorem d_Law_law_1088 : decode code 1088 = .ok (.iload 4, 2) := by decide +kernel
theorem d_Law_law_1090 : decode code 1090 = .ok (.iconst 2, 1) := by decide +kernel
theorem d_Law_law_1091 : decode code 1091 = .ok (.iadd, 1) := by decide +kernel
theorem d_Law_law_1092 : decode code 1092 = .ok (.iaload, 1) := by decide +kernel
theorem d_Law_law_1093 : decode code 1093 = .ok (.aload_n 0, 1) := by decide +kernel
theorem d_Law_law_1094 : decode code 1094 = .ok (.iload 4, 2) := by decide +kernel
theorem d_Law_law_1096 : decode code 1096 = .ok (.iconst 3, 1) := by decide +kernel
theorem d_Law_law_1097 : decode code 1097 = .ok (.iadd, 1) := by decide +kernel
theorem d_Law_law_1098 : decode code 1098 = .ok (.iaload, 1) := by decide +kernel
theorem d_Law_law_1099 : decode code 1099 = .ok (.ifCond .eq 7, 3) := by decide +kernel
theorem d_Law_law_1102 : decode code 1102 = .ok (.iconst 1, 1) := by decide +kernel
theorem d_Law_law_1103 : decode code 1103 = .ok (.goto 4, 3) := by decide +kernel
theorem d_Law_law_1106 : decode code 1106 = .ok (.iconst 0, 1) := by decide +kernel
theorem d_Law_law_1107 : decode code 1107 = .ok (.aload_n 3, 1) := by decide +kernel
theorem d_Law_law_1108 : decode code 1108 = .ok (.invokestatic 167, 3) := by decide +kernel
theorem d_Law_law_1111 : decode code 1111 = .ok (.istore 5, 2) := by decide +kernel
theorem d_Law_law_1113 : decode code 1113 = .ok (.aload_n 2, 1) := by decide +kernel
theorem d_Law_law_1114 : decode code 1114 = .ok (.aload_n 0, 1) := by decide +kernel
theorem d_Law_law_1115 : decode code 1115 = .ok (.iload 4, 2) := by decide +kernel
theorem d_Law_law_1117 : decode code 1117 = .ok (.iconst 1, 1) := by decide +kernel
theorem d_Law_law_1118 : decode code 1118 = .ok (.iadd, 1) := by decide +kernel
theorem d_Law_law_1119 : decode code 1119 = .ok (.iaload, 1) := by decide +kernel
theorem d_Law_law_1120 : decode code 1120 = .ok (.aload_n 0, 1) := by decide +kernel
theorem d_Law_law_1121 : decode code 1121 = .ok (.iload 4, 2) := by decide +kernel
theorem d_Law_law_1123 : decode code 1123 = .ok (.iconst 2, 1) := by decide +kernel
theorem d_Law_law_1124 : decode code 1124 = .ok (.iadd, 1) := by decide +kernel
theorem d_Law_law_1125 : decode code 1125 = .ok (.iaload, 1) := by decide +kernel
theorem d_Law_law_1126 : decode code 1126 = .ok (.aload_n 0, 1) := by decide +kernel
theorem d_Law_law_1127 : decode code 1127 = .ok (.iload 4, 2) := by decide +kernel
theorem d_Law_law_1129 : decode code 1129 = .ok (.iconst 3, 1) := by decide +kernel
theorem d_Law_law_1130 : decode code 1130 = .ok (.iadd, 1) := by decide +kernel
theorem d_Law_law_1131 : decode code 1131 = .ok (.iaload, 1) := by decide +kernel
theorem d_Law_law_1132 : decode code 1132 = .ok (.ifCond .eq 7, 3) := by decide +kernel
theorem d_Law_law_1135 : decode code 1135 = .ok (.iconst 1, 1) := by decide +kernel
theorem d_Law_law_1136 : decode code 1136 = .ok (.goto 4, 3) := by decide +kernel
theorem d_Law_law_1139 : decode code 1139 = .ok (.iconst 0, 1) := by decide +kernel
theorem d_Law_law_1140 : decode code 1140 = .ok (.invokevirtual 170, 3) := by decide +kernel
theorem d_Law_law_1143 : decode code 1143 = .ok (.istore 6, 2) := by decide +kernel
theorem d_Law_law_1145 : decode code 1145 = .ok (.aload_n 2, 1) := by decide +kernel
theorem d_Law_law_1146 : decode code 1146 = .ok (.invokevirtual 132, 3) := by decide +kernel
theorem d_Law_law_1149 : decode code 1149 = .ok (.iload 5, 2) := by decide +kernel
theorem d_Law_law_1151 : decode code 1151 = .ok (.if_icmp .eq 5, 3) := by decide +kernel
theorem d_Law_law_1156 : decode code 1156 = .ok (.iload 5, 2) := by decide +kernel
theorem d_Law_law_1158 : decode code 1158 = .ok (.ifCond .ne 15, 3) := by decide +kernel
theorem d_Law_law_1161 : decode code 1161 = .ok (.aload_n 3, 1) := by decide +kernel
theorem d_Law_law_1162 : decode code 1162 = .ok (.iconst 0, 1) := by decide +kernel
theorem d_Law_law_1163 : decode code 1163 = .ok (.laload, 1) := by decide +kernel
theorem d_Law_law_1164 : decode code 1164 = .ok (.iload 6, 2) := by decide +kernel
theorem d_Law_law_1166 : decode code 1166 = .ok (.i2l, 1) := by decide +kernel
theorem d_Law_law_1167 : decode code 1167 = .ok (.lcmp, 1) := by decide +kernel
theorem d_Law_law_1168 : decode code 1168 = .ok (.ifCond .eq 5, 3) := by decide +kernel
theorem d_Law_law_1173 : decode code 1173 = .ok (.goto 1344, 3) := by decide +kernel
theorem d_Law_law_1176 : decode code 1176 = .ok (.aload_n 1, 1) := by decide +kernel
theorem d_Law_law_1177 : decode code 1177 = .ok (.aload_n 0, 1) := by decide +kernel
theorem d_Law_law_1178 : decode code 1178 = .ok (.iload 4, 2) := by decide +kernel
theorem d_Law_law_1180 : decode code 1180 = .ok (.iconst 1, 1) := by decide +kernel
theorem d_Law_law_1181 : decode code 1181 = .ok (.iadd, 1) := by decide +kernel
theorem d_Law_law_1182 : decode code 1182 = .ok (.iaload, 1) := by decide +kernel
theorem d_Law_law_1183 : decode code 1183 = .ok (.aload_n 3, 1) := by decide +kernel
theorem d_Law_law_1184 : decode code 1184 = .ok (.invokestatic 171, 3) := by decide +kernel
theorem d_Law_law_1187 : decode code 1187 = .ok (.istore 5, 2) := by decide +kernel
theorem d_Law_law_1189 : decode code 1189 = .ok (.aload_n 2, 1) := by decide +kernel
theorem d_Law_law_1190 : decode code 1190 = .ok (.aload_n 0, 1) := by decide +kernel
theorem d_Law_law_1191 : decode code 1191 = .ok (.iload 4, 2) := by decide +kernel
theorem d_Law_law_1193 : decode code 1193 = .ok (.iconst 1, 1) := by decide +kernel
theorem d_Law_law_1194 : decode code 1194 = .ok (.iadd, 1) := by decide +kernel
theorem d_Law_law_1195 : decode code 1195 = .ok (.iaload, 1) := by decide +kernel
theorem d_Law_law_1196 : decode code 1196 = .ok (.invokevirtual 174, 3) := by decide +kernel
theorem d_Law_law_1199 : decode code 1199 = .ok (.istore 6, 2) := by decide +kernel
theorem d_Law_law_1201 : decode code 1201 = .ok (.aload_n 2, 1) := by decide +kernel
theorem d_Law_law_1202 : decode code 1202 = .ok (.invokevirtual 132, 3) := by decide +kernel
theorem d_Law_law_1205 : decode code 1205 = .ok (.iload 5, 2) := by decide +kernel
theorem d_Law_law_1207 : decode code 1207 = .ok (.if_icmp .eq 5, 3) := by decide +kernel
theorem d_Law_law_1212 : decode code 1212 = .ok (.iload 5, 2) := by decide +kernel
theorem d_Law_law_1214 : decode code 1214 = .ok (.ifCond .ne 15, 3) := by decide +kernel
theorem d_Law_law_1217 : decode code 1217 = .ok (.aload_n 3, 1) := by decide +kernel
theorem d_Law_law_1218 : decode code 1218 = .ok (.iconst 0, 1) := by decide +kernel
theorem d_Law_law_1219 : decode code 1219 = .ok (.laload, 1) := by decide +kernel
theorem d_Law_law_1220 : decode code 1220 = .ok (.iload 6, 2) := by decide +kernel
theorem d_Law_law_1222 : decode code 1222 = .ok (.i2l, 1) := by decide +kernel
theorem d_Law_law_1223 : decode code 1223 = .ok (.lcmp, 1) := by decide +kernel
theorem d_Law_law_1224 : decode code 1224 = .ok (.ifCond .eq 5, 3) := by decide +kernel
theorem d_Law_law_1229 : decode code 1229 = .ok (.goto 1288, 3) := by decide +kernel
theorem d_Law_law_1232 : decode code 1232 = .ok (.aload_n 1, 1) := by decide +kernel
theorem d_Law_law_1233 : decode code 1233 = .ok (.aload_n 0, 1) := by decide +kernel
theorem d_Law_law_1234 : decode code 1234 = .ok (.iload 4, 2) := by decide +kernel
theorem d_Law_law_1236 : decode code 1236 = .ok (.iconst 1, 1) := by decide +kernel
theorem d_Law_law_1237 : decode code 1237 = .ok (.iadd, 1) := by decide +kernel
theorem d_Law_law_1238 : decode code 1238 = .ok (.iaload, 1) := by decide +kernel
theorem d_Law_law_1239 : decode code 1239 = .ok (.aload_n 0, 1) := by decide +kernel
theorem d_Law_law_1240 : decode code 1240 = .ok (.iload 4, 2) := by decide +kernel
theorem d_Law_law_1242 : decode code 1242 = .ok (.iconst 2, 1) := by decide +kernel
theorem d_Law_law_1243 : decode code 1243 = .ok (.iadd, 1) := by decide +kernel
theorem d_Law_law_1244 : decode code 1244 = .ok (.iaload, 1) := by decide +kernel
theorem d_Law_law_1245 : decode code 1245 = .ok (.aload_n 3, 1) := by decide +kernel
theorem d_Law_law_1246 : decode code 1246 = .ok (.invokestatic 175, 3) := by decide +kernel
theorem d_Law_law_1249 : decode code 1249 = .ok (.istore 5, 2) := by decide +kernel
theorem d_Law_law_1251 : decode code 1251 = .ok (.aload_n 2, 1) := by decide +kernel
theorem d_Law_law_1252 : decode code 1252 = .ok (.aload_n 0, 1) := by decide +kernel
theorem d_Law_law_1253 : decode code 1253 = .ok (.iload 4, 2) := by decide +kernel
theorem d_Law_law_1255 : decode code 1255 = .ok (.iconst 1, 1) := by decide +kernel
theorem d_Law_law_1256 : decode code 1256 = .ok (.iadd, 1) := by decide +kernel
theorem d_Law_law_1257 : decode code 1257 = .ok (.iaload, 1) := by decide +kernel
theorem d_Law_law_1258 : decode code 1258 = .ok (.aload_n 0, 1) := by decide +kernel
theorem d_Law_law_1259 : decode code 1259 = .ok (.iload 4, 2) := by decide +kernel
theorem d_Law_law_1261 : decode code 1261 = .ok (.iconst 2, 1) := by decide +kernel
theorem d_Law_law_1262 : decode code 1262 = .ok (.iadd, 1) := by decide +kernel
theorem d_Law_law_1263 : decode code 1263 = .ok (.iaload, 1) := by decide +kernel
theorem d_Law_law_1264 : decode code 1264 = .ok (.invokevirtual 177, 3) := by decide +kernel
theorem d_Law_law_1267 : decode code 1267 = .ok (.istore 6, 2) := by decide +kernel
theorem d_Law_law_1269 : decode code 1269 = .ok (.aload_n 2, 1) := by decide +kernel
theorem d_Law_law_1270 : decode code 1270 = .ok (.invokevirtual 132, 3) := by decide +kernel
theorem d_Law_law_1273 : decode code 1273 = .ok (.iload 5, 2) := by decide +kernel
theorem d_Law_law_1275 : decode code 1275 = .ok (.if_icmp .eq 5, 3) := by decide +kernel
theorem d_Law_law_1280 : decode code 1280 = .ok (.iload 5, 2) := by decide +kernel
theorem d_Law_law_1282 : decode code 1282 = .ok (.ifCond .ne 15, 3) := by decide +kernel
theorem d_Law_law_1285 : decode code 1285 = .ok (.aload_n 3, 1) := by decide +kernel
theorem d_Law_law_1286 : decode code 1286 = .ok (.iconst 0, 1) := by decide +kernel
theorem d_Law_law_1287 : decode code 1287 = .ok (.laload, 1) := by decide +kernel
theorem d_Law_law_1288 : decode code 1288 = .ok (.iload 6, 2) := by decide +kernel
theorem d_Law_law_1290 : decode code 1290 = .ok (.i2l, 1) := by decide +kernel
theorem d_Law_law_1291 : decode code 1291 = .ok (.lcmp, 1) := by decide +kernel
theorem d_Law_law_1292 : decode code 1292 = .ok (.ifCond .eq 5, 3) := by decide +kernel
theorem d_Law_law_1297 : decode code 1297 = .ok (.goto 1220, 3) := by decide +kernel
theorem d_Law_law_1300 : decode code 1300 = .ok (.aload_n 1, 1) := by decide +kernel
theorem d_Law_law_1301 : decode code 1301 = .ok (.aload_n 0, 1) := by decide +kernel
theorem d_Law_law_1302 : decode code 1302 = .ok (.iload 4, 2) := by decide +kernel
theorem d_Law_law_1304 : decode code 1304 = .ok (.iconst 1, 1) := by decide +kernel
theorem d_Law_law_1305 : decode code 1305 = .ok (.iadd, 1) := by decide +kernel
theorem d_Law_law_1306 : decode code 1306 = .ok (.iaload, 1) := by decide +kernel
theorem d_Law_law_1307 : decode code 1307 = .ok (.aload_n 0, 1) := by decide +kernel
theorem d_Law_law_1308 : decode code 1308 = .ok (.iload 4, 2) := by decide +kernel
theorem d_Law_law_1310 : decode code 1310 = .ok (.iconst 2, 1) := by decide +kernel
theorem d_Law_law_1311 : decode code 1311 = .ok (.iadd, 1) := by decide +kernel
theorem d_Law_law_1312 : decode code 1312 = .ok (.iaload, 1) := by decide +kernel
theorem d_Law_law_1313 : decode code 1313 = .ok (.aload_n 0, 1) := by decide +kernel
theorem d_Law_law_1314 : decode code 1314 = .ok (.iload 4, 2) := by decide +kernel
theorem d_Law_law_1316 : decode code 1316 = .ok (.iconst 3, 1) := by decide +kernel
theorem d_Law_law_1317 : decode code 1317 = .ok (.iadd, 1) := by decide +kernel
theorem d_Law_law_1318 : decode code 1318 = .ok (.iaload, 1) := by decide +kernel
theorem d_Law_law_1319 : decode code 1319 = .ok (.aload_n 3, 1) := by decide +kernel
theorem d_Law_law_1320 : decode code 1320 = .ok (.invokestatic 178, 3) := by decide +kernel
theorem d_Law_law_1323 : decode code 1323 = .ok (.istore 5, 2) := by decide +kernel
theorem d_Law_law_1325 : decode code 1325 = .ok (.aload_n 2, 1) := by decide +kernel
theorem d_Law_law_1326 : decode code 1326 = .ok (.aload_n 0, 1) := by decide +kernel
theorem d_Law_law_1327 : decode code 1327 = .ok (.iload 4, 2) := by decide +kernel
theorem d_Law_law_1329 : decode code 1329 = .ok (.iconst 1, 1) := by decide +kernel
theorem d_Law_law_1330 : decode code 1330 = .ok (.iadd, 1) := by decide +kernel
theorem d_Law_law_1331 : decode code 1331 = .ok (.iaload, 1) := by decide +kernel
theorem d_Law_law_1332 : decode code 1332 = .ok (.aload_n 0, 1) := by decide +kernel
theorem d_Law_law_1333 : decode code 1333 = .ok (.iload 4, 2) := by decide +kernel
theorem d_Law_law_1335 : decode code 1335 = .ok (.iconst 2, 1) := by decide +kernel
theorem d_Law_law_1336 : decode code 1336 = .ok (.iadd, 1) := by decide +kernel
theorem d_Law_law_1337 : decode code 1337 = .ok (.iaload, 1) := by decide +kernel
theorem d_Law_law_1338 : decode code 1338 = .ok (.aload_n 0, 1) := by decide +kernel
theorem d_Law_law_1339 : decode code 1339 = .ok (.iload 4, 2) := by decide +kernel
theorem d_Law_law_1341 : decode code 1341 = .ok (.iconst 3, 1) := by decide +kernel
theorem d_Law_law_1342 : decode code 1342 = .ok (.iadd, 1) := by decide +kernel
theorem d_Law_law_1343 : decode code 1343 = .ok (.iaload, 1) := by decide +kernel
theorem d_Law_law_1344 : decode code 1344 = .ok (.invokevirtual 180, 3) := by decide +kernel
theorem d_Law_law_1347 : decode code 1347 = .ok (.lstore 6, 2) := by decide +kernel
theorem d_Law_law_1349 : decode code 1349 = .ok (.aload_n 2, 1) := by decide +kernel
theorem d_Law_law_1350 : decode code 1350 = .ok (.invokevirtual 132, 3) := by decide +kernel
theorem d_Law_law_1353 : decode code 1353 = .ok (.iload 5, 2) := by decide +kernel
theorem d_Law_law_1355 : decode code 1355 = .ok (.if_icmp .eq 5, 3) := by decide +kernel
theorem d_Law_law_1360 : decode code 1360 = .ok (.iload 5, 2) := by decide +kernel
theorem d_Law_law_1362 : decode code 1362 = .ok (.ifCond .ne 14, 3) := by decide +kernel
theorem d_Law_law_1365 : decode code 1365 = .ok (.aload_n 3, 1) := by decide +kernel
theorem d_Law_law_1366 : decode code 1366 = .ok (.iconst 0, 1) := by decide +kernel
theorem d_Law_law_1367 : decode code 1367 = .ok (.laload, 1) := by decide +kernel
theorem d_Law_law_1368 : decode code 1368 = .ok (.lload 6, 2) := by decide +kernel
theorem d_Law_law_1370 : decode code 1370 = .ok (.lcmp, 1) := by decide +kernel
theorem d_Law_law_1371 : decode code 1371 = .ok (.ifCond .eq 5, 3) := by decide +kernel
theorem d_Law_law_1376 : decode code 1376 = .ok (.goto 1141, 3) := by decide +kernel
theorem d_Law_law_1379 : decode code 1379 = .ok (.aload_n 1, 1) := by decide +kernel
theorem d_Law_law_1380 : decode code 1380 = .ok (.aload_n 0, 1) := by decide +kernel
theorem d_Law_law_1381 : decode code 1381 = .ok (.iload 4, 2) := by decide +kernel
theorem d_Law_law_1383 : decode code 1383 = .ok (.iconst 1, 1) := by decide +kernel
theorem d_Law_law_1384 : decode code 1384 = .ok (.iadd, 1) := by decide +kernel
theorem d_Law_law_1385 : decode code 1385 = .ok (.iaload, 1) := by decide +kernel
theorem d_Law_law_1386 : decode code 1386 = .ok (.aload_n 0, 1) := by decide +kernel
theorem d_Law_law_1387 : decode code 1387 = .ok (.iload 4, 2) := by decide +kernel
theorem d_Law_law_1389 : decode code 1389 = .ok (.iconst 2, 1) := by decide +kernel
theorem d_Law_law_1390 : decode code 1390 = .ok (.iadd, 1) := by decide +kernel
theorem d_Law_law_1391 : decode code 1391 = .ok (.iaload, 1) := by decide +kernel
theorem d_Law_law_1392 : decode code 1392 = .ok (.aload_n 0, 1) := by decide +kernel
theorem d_Law_law_1393 : decode code 1393 = .ok (.iload 4, 2) := by decide +kernel
theorem d_Law_law_1395 : decode code 1395 = .ok (.iconst 3, 1) := by decide +kernel
theorem d_Law_law_1396 : decode code 1396 = .ok (.iadd, 1) := by decide +kernel
theorem d_Law_law_1397 : decode code 1397 = .ok (.iaload, 1) := by decide +kernel
theorem d_Law_law_1398 : decode code 1398 = .ok (.aload_n 3, 1) := by decide +kernel
theorem d_Law_law_1399 : decode code 1399 = .ok (.invokestatic 181, 3) := by decide +kernel
theorem d_Law_law_1402 : decode code 1402 = .ok (.istore 5, 2) := by decide +kernel
theorem d_Law_law_1404 : decode code 1404 = .ok (.aload_n 2, 1) := by decide +kernel
theorem d_Law_law_1405 : decode code 1405 = .ok (.aload_n 0, 1) := by decide +kernel
theorem d_Law_law_1406 : decode code 1406 = .ok (.iload 4, 2) := by decide +kernel
theorem d_Law_law_1408 : decode code 1408 = .ok (.iconst 1, 1) := by decide +kernel
theorem d_Law_law_1409 : decode code 1409 = .ok (.iadd, 1) := by decide +kernel
theorem d_Law_law_1410 : decode code 1410 = .ok (.iaload, 1) := by decide +kernel
theorem d_Law_law_1411 : decode code 1411 = .ok (.aload_n 0, 1) := by decide +kernel
theorem d_Law_law_1412 : decode code 1412 = .ok (.iload 4, 2) := by decide +kernel
theorem d_Law_law_1414 : decode code 1414 = .ok (.iconst 2, 1) := by decide +kernel
theorem d_Law_law_1415 : decode code 1415 = .ok (.iadd, 1) := by decide +kernel
theorem d_Law_law_1416 : decode code 1416 = .ok (.iaload, 1) := by decide +kernel
theorem d_Law_law_1417 : decode code 1417 = .ok (.aload_n 0, 1) := by decide +kernel
theorem d_Law_law_1418 : decode code 1418 = .ok (.iload 4, 2) := by decide +kernel
theorem d_Law_law_1420 : decode code 1420 = .ok (.iconst 3, 1) := by decide +kernel
theorem d_Law_law_1421 : decode code 1421 = .ok (.iadd, 1) := by decide +kernel
theorem d_Law_law_1422 : decode code 1422 = .ok (.iaload, 1) := by decide +kernel
theorem d_Law_law_1423 : decode code 1423 = .ok (.invokevirtual 183, 3) := by decide +kernel
theorem d_Law_law_1426 : decode code 1426 = .ok (.lstore 6, 2) := by decide +kernel
theorem d_Law_law_1428 : decode code 1428 = .ok (.aload_n 2, 1) := by decide +kernel
theorem d_Law_law_1429 : decode code 1429 = .ok (.invokevirtual 132, 3) := by decide +kernel
theorem d_Law_law_1432 : decode code 1432 = .ok (.iload 5, 2) := by decide +kernel
theorem d_Law_law_1434 : decode code 1434 = .ok (.if_icmp .eq 5, 3) := by decide +kernel
theorem d_Law_law_1439 : decode code 1439 = .ok (.iload 5, 2) := by decide +kernel
theorem d_Law_law_1441 : decode code 1441 = .ok (.ifCond .ne 14, 3) := by decide +kernel
theorem d_Law_law_1444 : decode code 1444 = .ok (.aload_n 3, 1) := by decide +kernel
theorem d_Law_law_1445 : decode code 1445 = .ok (.iconst 0, 1) := by decide +kernel
theorem d_Law_law_1446 : decode code 1446 = .ok (.laload, 1) := by decide +kernel
theorem d_Law_law_1447 : decode code 1447 = .ok (.lload 6, 2) := by decide +kernel
theorem d_Law_law_1449 : decode code 1449 = .ok (.lcmp, 1) := by decide +kernel
theorem d_Law_law_1450 : decode code 1450 = .ok (.ifCond .eq 5, 3) := by decide +kernel
theorem d_Law_law_1455 : decode code 1455 = .ok (.goto 1062, 3) := by decide +kernel
theorem d_Law_law_1458 : decode code 1458 = .ok (.aload_n 1, 1) := by decide +kernel
theorem d_Law_law_1459 : decode code 1459 = .ok (.aload_n 0, 1) := by decide +kernel
theorem d_Law_law_1460 : decode code 1460 = .ok (.iload 4, 2) := by decide +kernel
theorem d_Law_law_1462 : decode code 1462 = .ok (.iconst 1, 1) := by decide +kernel
theorem d_Law_law_1463 : decode code 1463 = .ok (.iadd, 1) := by decide +kernel
theorem d_Law_law_1464 : decode code 1464 = .ok (.iaload, 1) := by decide +kernel
theorem d_Law_law_1465 : decode code 1465 = .ok (.aload_n 3, 1) := by decide +kernel
theorem d_Law_law_1466 : decode code 1466 = .ok (.invokestatic 184, 3) := by decide +kernel
theorem d_Law_law_1469 : decode code 1469 = .ok (.istore 5, 2) := by decide +kernel
theorem d_Law_law_1471 : decode code 1471 = .ok (.aload_n 2, 1) := by decide +kernel
theorem d_Law_law_1472 : decode code 1472 = .ok (.aload_n 0, 1) := by decide +kernel
theorem d_Law_law_1473 : decode code 1473 = .ok (.iload 4, 2) := by decide +kernel
theorem d_Law_law_1475 : decode code 1475 = .ok (.iconst 1, 1) := by decide +kernel
theorem d_Law_law_1476 : decode code 1476 = .ok (.iadd, 1) := by decide +kernel
theorem d_Law_law_1477 : decode code 1477 = .ok (.iaload, 1) := by decide +kernel
theorem d_Law_law_1478 : decode code 1478 = .ok (.invokevirtual 186, 3) := by decide +kernel
theorem d_Law_law_1481 : decode code 1481 = .ok (.istore 6, 2) := by decide +kernel
theorem d_Law_law_1483 : decode code 1483 = .ok (.aload_n 2, 1) := by decide +kernel
theorem d_Law_law_1484 : decode code 1484 = .ok (.invokevirtual 132, 3) := by decide +kernel
theorem d_Law_law_1487 : decode code 1487 = .ok (.iload 5, 2) := by decide +kernel
theorem d_Law_law_1489 : decode code 1489 = .ok (.if_icmp .eq 5, 3) := by decide +kernel
theorem d_Law_law_1494 : decode code 1494 = .ok (.iload 5, 2) := by decide +kernel
theorem d_Law_law_1496 : decode code 1496 = .ok (.ifCond .ne 15, 3) := by decide +kernel
theorem d_Law_law_1499 : decode code 1499 = .ok (.aload_n 3, 1) := by decide +kernel
theorem d_Law_law_1500 : decode code 1500 = .ok (.iconst 0, 1) := by decide +kernel
theorem d_Law_law_1501 : decode code 1501 = .ok (.laload, 1) := by decide +kernel
theorem d_Law_law_1502 : decode code 1502 = .ok (.iload 6, 2) := by decide +kernel
theorem d_Law_law_1504 : decode code 1504 = .ok (.i2l, 1) := by decide +kernel
theorem d_Law_law_1505 : decode code 1505 = .ok (.lcmp, 1) := by decide +kernel
theorem d_Law_law_1506 : decode code 1506 = .ok (.ifCond .eq 5, 3) := by decide +kernel
theorem d_Law_law_1511 : decode code 1511 = .ok (.goto 1006, 3) := by decide +kernel
theorem d_Law_law_1514 : decode code 1514 = .ok (.aload_n 1, 1) := by decide +kernel
theorem d_Law_law_1515 : decode code 1515 = .ok (.aload_n 0, 1) := by decide +kernel
theorem d_Law_law_1516 : decode code 1516 = .ok (.iload 4, 2) := by decide +kernel
theorem d_Law_law_1518 : decode code 1518 = .ok (.iconst 1, 1) := by decide +kernel
theorem d_Law_law_1519 : decode code 1519 = .ok (.iadd, 1) := by decide +kernel
theorem d_Law_law_1520 : decode code 1520 = .ok (.iaload, 1) := by decide +kernel
theorem d_Law_law_1521 : decode code 1521 = .ok (.aload_n 0, 1) := by decide +kernel
theorem d_Law_law_1522 : decode code 1522 = .ok (.iload 4, 2) := by decide +kernel
theorem d_Law_law_1524 : decode code 1524 = .ok (.iconst 2, 1) := by decide +kernel
theorem d_Law_law_1525 : decode code 1525 = .ok (.iadd, 1) := by decide +kernel
theorem d_Law_law_1526 : decode code 1526 = .ok (.iaload, 1) := by decide +kernel
theorem d_Law_law_1527 : decode code 1527 = .ok (.aload_n 3, 1) := by decide +kernel
theorem d_Law_law_1528 : decode code 1528 = .ok (.invokestatic 187, 3) := by decide +kernel
theorem d_Law_law_1531 : decode code 1531 = .ok (.istore 5, 2) := by decide +kernel
theorem d_Law_law_1533 : decode code 1533 = .ok (.aload_n 2, 1) := by decide +kernel
theorem d_Law_law_1534 : decode code 1534 = .ok (.aload_n 0, 1) := by decide +kernel
theorem d_Law_law_1535 : decode code 1535 = .ok (.iload 4, 2) := by decide +kernel
theorem d_Law_law_1537 : decode code 1537 = .ok (.iconst 1, 1) := by decide +kernel
theorem d_Law_law_1538 : decode code 1538 = .ok (.iadd, 1) := by decide +kernel
theorem d_Law_law_1539 : decode code 1539 = .ok (.iaload, 1) := by decide +kernel
theorem d_Law_law_1540 : decode code 1540 = .ok (.aload_n 0, 1) := by decide +kernel
theorem d_Law_law_1541 : decode code 1541 = .ok (.iload 4, 2) := by decide +kernel
theorem d_Law_law_1543 : decode code 1543 = .ok (.iconst 2, 1) := by decide +kernel
theorem d_Law_law_1544 : decode code 1544 = .ok (.iadd, 1) := by decide +kernel
theorem d_Law_law_1545 : decode code 1545 = .ok (.iaload, 1) := by decide +kernel
theorem d_Law_law_1546 : decode code 1546 = .ok (.invokevirtual 189, 3) := by decide +kernel
theorem d_Law_law_1549 : decode code 1549 = .ok (.istore 6, 2) := by decide +kernel
theorem d_Law_law_1551 : decode code 1551 = .ok (.aload_n 2, 1) := by decide +kernel
theorem d_Law_law_1552 : decode code 1552 = .ok (.invokevirtual 132, 3) := by decide +kernel
theorem d_Law_law_1555 : decode code 1555 = .ok (.iload 5, 2) := by decide +kernel
theorem d_Law_law_1557 : decode code 1557 = .ok (.if_icmp .eq 5, 3) := by decide +kernel
theorem d_Law_law_1562 : decode code 1562 = .ok (.iload 5, 2) := by decide +kernel
theorem d_Law_law_1564 : decode code 1564 = .ok (.ifCond .ne 22, 3) := by decide +kernel
theorem d_Law_law_1567 : decode code 1567 = .ok (.aload_n 3, 1) := by decide +kernel
theorem d_Law_law_1568 : decode code 1568 = .ok (.iconst 0, 1) := by decide +kernel
theorem d_Law_law_1569 : decode code 1569 = .ok (.laload, 1) := by decide +kernel
theorem d_Law_law_1570 : decode code 1570 = .ok (.iload 6, 2) := by decide +kernel
theorem d_Law_law_1572 : decode code 1572 = .ok (.ifCond .eq 7, 3) := by decide +kernel
theorem d_Law_law_1575 : decode code 1575 = .ok (.lconst 1, 1) := by decide +kernel
theorem d_Law_law_1576 : decode code 1576 = .ok (.goto 4, 3) := by decide +kernel
theorem d_Law_law_1579 : decode code 1579 = .ok (.lconst 0, 1) := by decide +kernel
theorem d_Law_law_1580 : decode code 1580 = .ok (.lcmp, 1) := by decide +kernel
theorem d_Law_law_1581 : decode code 1581 = .ok (.ifCond .eq 5, 3) := by decide +kernel
theorem d_Law_law_1586 : decode code 1586 = .ok (.goto 931, 3) := by decide +kernel
theorem d_Law_law_1589 : decode code 1589 = .ok (.aload_n 1, 1) := by decide +kernel
theorem d_Law_law_1590 : decode code 1590 = .ok (.aload_n 0, 1) := by decide +kernel
theorem d_Law_law_1591 : decode code 1591 = .ok (.iload 4, 2) := by decide +kernel
theorem d_Law_law_1593 : decode code 1593 = .ok (.iconst 1, 1) := by decide +kernel
theorem d_Law_law_1594 : decode code 1594 = .ok (.iadd, 1) := by decide +kernel
theorem d_Law_law_1595 : decode code 1595 = .ok (.iaload, 1) := by decide +kernel
theorem d_Law_law_1596 : decode code 1596 = .ok (.aload_n 0, 1) := by decide +kernel
theorem d_Law_law_1597 : decode code 1597 = .ok (.iload 4, 2) := by decide +kernel
theorem d_Law_law_1599 : decode code 1599 = .ok (.iconst 2, 1) := by decide +kernel
theorem d_Law_law_1600 : decode code 1600 = .ok (.iadd, 1) := by decide +kernel
theorem d_Law_law_1601 : decode code 1601 = .ok (.iaload, 1) := by decide +kernel
theorem d_Law_law_1602 : decode code 1602 = .ok (.aload_n 0, 1) := by decide +kernel
theorem d_Law_law_1603 : decode code 1603 = .ok (.iload 4, 2) := by decide +kernel
theorem d_Law_law_1605 : decode code 1605 = .ok (.iconst 3, 1) := by decide +kernel
theorem d_Law_law_1606 : decode code 1606 = .ok (.iadd, 1) := by decide +kernel
theorem d_Law_law_1607 : decode code 1607 = .ok (.iaload, 1) := by decide +kernel
theorem d_Law_law_1608 : decode code 1608 = .ok (.aload_n 3, 1) := by decide +kernel
theorem d_Law_law_1609 : decode code 1609 = .ok (.invokestatic 190, 3) := by decide +kernel
theorem d_Law_law_1612 : decode code 1612 = .ok (.istore 5, 2) := by decide +kernel
theorem d_Law_law_1614 : decode code 1614 = .ok (.aload_n 2, 1) := by decide +kernel
theorem d_Law_law_1615 : decode code 1615 = .ok (.aload_n 0, 1) := by decide +kernel
theorem d_Law_law_1616 : decode code 1616 = .ok (.iload 4, 2) := by decide +kernel
theorem d_Law_law_1618 : decode code 1618 = .ok (.iconst 1, 1) := by decide +kernel
theorem d_Law_law_1619 : decode code 1619 = .ok (.iadd, 1) := by decide +kernel
theorem d_Law_law_1620 : decode code 1620 = .ok (.iaload, 1) := by decide +kernel
theorem d_Law_law_1621 : decode code 1621 = .ok (.aload_n 0, 1) := by decide +kernel
theorem d_Law_law_1622 : decode code 1622 = .ok (.iload 4, 2) := by decide +kernel
theorem d_Law_law_1624 : decode code 1624 = .ok (.iconst 2, 1) := by decide +kernel
theorem d_Law_law_1625 : decode code 1625 = .ok (.iadd, 1) := by decide +kernel
theorem d_Law_law_1626 : decode code 1626 = .ok (.iaload, 1) := by decide +kernel
theorem d_Law_law_1627 : decode code 1627 = .ok (.aload_n 0, 1) := by decide +kernel
theorem d_Law_law_1628 : decode code 1628 = .ok (.iload 4, 2) := by decide +kernel
theorem d_Law_law_1630 : decode code 1630 = .ok (.iconst 3, 1) := by decide +kernel
theorem d_Law_law_1631 : decode code 1631 = .ok (.iadd, 1) := by decide +kernel
theorem d_Law_law_1632 : decode code 1632 = .ok (.iaload, 1) := by decide +kernel
theorem d_Law_law_1633 : decode code 1633 = .ok (.invokevirtual 192, 3) := by decide +kernel
theorem d_Law_law_1636 : decode code 1636 = .ok (.istore 6, 2) := by decide +kernel
theorem d_Law_law_1638 : decode code 1638 = .ok (.aload_n 2, 1) := by decide +kernel
theorem d_Law_law_1639 : decode code 1639 = .ok (.invokevirtual 132, 3) := by decide +kernel
theorem d_Law_law_1642 : decode code 1642 = .ok (.iload 5, 2) := by decide +kernel
theorem d_Law_law_1644 : decode code 1644 = .ok (.if_icmp .eq 5, 3) := by decide +kernel
theorem d_Law_law_1649 : decode code 1649 = .ok (.iload 5, 2) := by decide +kernel
theorem d_Law_law_1651 : decode code 1651 = .ok (.ifCond .ne 15, 3) := by decide +kernel
theorem d_Law_law_1654 : decode code 1654 = .ok (.aload_n 3, 1) := by decide +kernel
theorem d_Law_law_1655 : decode code 1655 = .ok (.iconst 0, 1) := by decide +kernel
theorem d_Law_law_1656 : decode code 1656 = .ok (.laload, 1) := by decide +kernel
theorem d_Law_law_1657 : decode code 1657 = .ok (.iload 6, 2) := by decide +kernel
theorem d_Law_law_1659 : decode code 1659 = .ok (.i2l, 1) := by decide +kernel
theorem d_Law_law_1660 : decode code 1660 = .ok (.lcmp, 1) := by decide +kernel
theorem d_Law_law_1661 : decode code 1661 = .ok (.ifCond .eq 5, 3) := by decide +kernel
theorem d_Law_law_1666 : decode code 1666 = .ok (.goto 851, 3) := by decide +kernel
theorem d_Law_law_1669 : decode code 1669 = .ok (.aload_n 1, 1) := by decide +kernel
theorem d_Law_law_1670 : decode code 1670 = .ok (.aload_n 0, 1) := by decide +kernel
theorem d_Law_law_1671 : decode code 1671 = .ok (.iload 4, 2) := by decide +kernel
theorem d_Law_law_1673 : decode code 1673 = .ok (.iconst 1, 1) := by decide +kernel
theorem d_Law_law_1674 : decode code 1674 = .ok (.iadd, 1) := by decide +kernel
theorem d_Law_law_1675 : decode code 1675 = .ok (.iaload, 1) := by decide +kernel
theorem d_Law_law_1676 : decode code 1676 = .ok (.aload_n 0, 1) := by decide +kernel
theorem d_Law_law_1677 : decode code 1677 = .ok (.iload 4, 2) := by decide +kernel
theorem d_Law_law_1679 : decode code 1679 = .ok (.iconst 2, 1) := by decide +kernel
theorem d_Law_law_1680 : decode code 1680 = .ok (.iadd, 1) := by decide +kernel
theorem d_Law_law_1681 : decode code 1681 = .ok (.iaload, 1) := by decide +kernel
theorem d_Law_law_1682 : decode code 1682 = .ok (.aload_n 3, 1) := by decide +kernel
theorem d_Law_law_1683 : decode code 1683 = .ok (.invokestatic 193, 3) := by decide +kernel
theorem d_Law_law_1686 : decode code 1686 = .ok (.istore 5, 2) := by decide +kernel
theorem d_Law_law_1688 : decode code 1688 = .ok (.aload_n 2, 1) := by decide +kernel
theorem d_Law_law_1689 : decode code 1689 = .ok (.aload_n 0, 1) := by decide +kernel
theorem d_Law_law_1690 : decode code 1690 = .ok (.iload 4, 2) := by decide +kernel
theorem d_Law_law_1692 : decode code 1692 = .ok (.iconst 1, 1) := by decide +kernel
theorem d_Law_law_1693 : decode code 1693 = .ok (.iadd, 1) := by decide +kernel
theorem d_Law_law_1694 : decode code 1694 = .ok (.iaload, 1) := by decide +kernel
theorem d_Law_law_1695 : decode code 1695 = .ok (.aload_n 0, 1) := by decide +kernel
theorem d_Law_law_1696 : decode code 1696 = .ok (.iload 4, 2) := by decide +kernel
theorem d_Law_law_1698 : decode code 1698 = .ok (.iconst 2, 1) := by decide +kernel
theorem d_Law_law_1699 : decode code 1699 = .ok (.iadd, 1) := by decide +kernel
theorem d_Law_law_1700 : decode code 1700 = .ok (.iaload, 1) := by decide +kernel
theorem d_Law_law_1701 : decode code 1701 = .ok (.invokevirtual 195, 3) := by decide +kernel
theorem d_Law_law_1704 : decode code 1704 = .ok (.istore 6, 2) := by decide +kernel
theorem d_Law_law_1706 : decode code 1706 = .ok (.aload_n 2, 1) := by decide +kernel
theorem d_Law_law_1707 : decode code 1707 = .ok (.invokevirtual 132, 3) := by decide +kernel
theorem d_Law_law_1710 : decode code 1710 = .ok (.iload 5, 2) := by decide +kernel
theorem d_Law_law_1712 : decode code 1712 = .ok (.if_icmp .eq 5, 3) := by decide +kernel
theorem d_Law_law_1717 : decode code 1717 = .ok (.iload 5, 2) := by decide +kernel
theorem d_Law_law_1719 : decode code 1719 = .ok (.ifCond .ne 15, 3) := by decide +kernel
theorem d_Law_law_1722 : decode code 1722 = .ok (.aload_n 3, 1) := by decide +kernel
theorem d_Law_law_1723 : decode code 1723 = .ok (.iconst 0, 1) := by decide +kernel
theorem d_Law_law_1724 : decode code 1724 = .ok (.laload, 1) := by decide +kernel
theorem d_Law_law_1725 : decode code 1725 = .ok (.iload 6, 2) := by decide +kernel
theorem d_Law_law_1727 : decode code 1727 = .ok (.i2l, 1) := by decide +kernel
theorem d_Law_law_1728 : decode code 1728 = .ok (.lcmp, 1) := by decide +kernel
theorem d_Law_law_1729 : decode code 1729 = .ok (.ifCond .eq 5, 3) := by decide +kernel
theorem d_Law_law_1734 : decode code 1734 = .ok (.goto 783, 3) := by decide +kernel
theorem d_Law_law_1737 : decode code 1737 = .ok (.aload_n 1, 1) := by decide +kernel
theorem d_Law_law_1738 : decode code 1738 = .ok (.aload_n 0, 1) := by decide +kernel
theorem d_Law_law_1739 : decode code 1739 = .ok (.iload 4, 2) := by decide +kernel
theorem d_Law_law_1741 : decode code 1741 = .ok (.iconst 1, 1) := by decide +kernel
theorem d_Law_law_1742 : decode code 1742 = .ok (.iadd, 1) := by decide +kernel
theorem d_Law_law_1743 : decode code 1743 = .ok (.iaload, 1) := by decide +kernel
theorem d_Law_law_1744 : decode code 1744 = .ok (.aload_n 0, 1) := by decide +kernel
theorem d_Law_law_1745 : decode code 1745 = .ok (.iload 4, 2) := by decide +kernel
theorem d_Law_law_1747 : decode code 1747 = .ok (.iconst 2, 1) := by decide +kernel
theorem d_Law_law_1748 : decode code 1748 = .ok (.iadd, 1) := by decide +kernel
theorem d_Law_law_1749 : decode code 1749 = .ok (.iaload, 1) := by decide +kernel
theorem d_Law_law_1750 : decode code 1750 = .ok (.aload_n 3, 1) := by decide +kernel
theorem d_Law_law_1751 : decode code 1751 = .ok (.invokestatic 196, 3) := by decide +kernel
theorem d_Law_law_1754 : decode code 1754 = .ok (.istore 5, 2) := by decide +kernel
theorem d_Law_law_1756 : decode code 1756 = .ok (.aload_n 2, 1) := by decide +kernel
theorem d_Law_law_1757 : decode code 1757 = .ok (.aload_n 0, 1) := by decide +kernel
theorem d_Law_law_1758 : decode code 1758 = .ok (.iload 4, 2) := by decide +kernel
theorem d_Law_law_1760 : decode code 1760 = .ok (.iconst 1, 1) := by decide +kernel
theorem d_Law_law_1761 : decode code 1761 = .ok (.iadd, 1) := by decide +kernel
theorem d_Law_law_1762 : decode code 1762 = .ok (.iaload, 1) := by decide +kernel
theorem d_Law_law_1763 : decode code 1763 = .ok (.aload_n 0, 1) := by decide +kernel
theorem d_Law_law_1764 : decode code 1764 = .ok (.iload 4, 2) := by decide +kernel
theorem d_Law_law_1766 : decode code 1766 = .ok (.iconst 2, 1) := by decide +kernel
theorem d_Law_law_1767 : decode code 1767 = .ok (.iadd, 1) := by decide +kernel
theorem d_Law_law_1768 : decode code 1768 = .ok (.iaload, 1) := by decide +kernel
theorem d_Law_law_1769 : decode code 1769 = .ok (.invokevirtual 198, 3) := by decide +kernel
theorem d_Law_law_1772 : decode code 1772 = .ok (.lstore 6, 2) := by decide +kernel
theorem d_Law_law_1774 : decode code 1774 = .ok (.aload_n 2, 1) := by decide +kernel
theorem d_Law_law_1775 : decode code 1775 = .ok (.invokevirtual 132, 3) := by decide +kernel
theorem d_Law_law_1778 : decode code 1778 = .ok (.iload 5, 2) := by decide +kernel
theorem d_Law_law_1780 : decode code 1780 = .ok (.if_icmp .eq 5, 3) := by decide +kernel
theorem d_Law_law_1785 : decode code 1785 = .ok (.iload 5, 2) := by decide +kernel
theorem d_Law_law_1787 : decode code 1787 = .ok (.ifCond .ne 14, 3) := by decide +kernel
theorem d_Law_law_1790 : decode code 1790 = .ok (.aload_n 3, 1) := by decide +kernel
theorem d_Law_law_1791 : decode code 1791 = .ok (.iconst 0, 1) := by decide +kernel
theorem d_Law_law_1792 : decode code 1792 = .ok (.laload, 1) := by decide +kernel
theorem d_Law_law_1793 : decode code 1793 = .ok (.lload 6, 2) := by decide +kernel
theorem d_Law_law_1795 : decode code 1795 = .ok (.lcmp, 1) := by decide +kernel
theorem d_Law_law_1796 : decode code 1796 = .ok (.ifCond .eq 5, 3) := by decide +kernel
theorem d_Law_law_1801 : decode code 1801 = .ok (.goto 716, 3) := by decide +kernel
theorem d_Law_law_1804 : decode code 1804 = .ok (.aload_n 1, 1) := by decide +kernel
theorem d_Law_law_1805 : decode code 1805 = .ok (.aload_n 0, 1) := by decide +kernel
theorem d_Law_law_1806 : decode code 1806 = .ok (.iload 4, 2) := by decide +kernel
theorem d_Law_law_1808 : decode code 1808 = .ok (.iconst 1, 1) := by decide +kernel
theorem d_Law_law_1809 : decode code 1809 = .ok (.iadd, 1) := by decide +kernel
theorem d_Law_law_1810 : decode code 1810 = .ok (.iaload, 1) := by decide +kernel
theorem d_Law_law_1811 : decode code 1811 = .ok (.aload_n 3, 1) := by decide +kernel
theorem d_Law_law_1812 : decode code 1812 = .ok (.invokestatic 199, 3) := by decide +kernel
theorem d_Law_law_1815 : decode code 1815 = .ok (.istore 5, 2) := by decide +kernel
theorem d_Law_law_1817 : decode code 1817 = .ok (.aload_n 2, 1) := by decide +kernel
theorem d_Law_law_1818 : decode code 1818 = .ok (.aload_n 0, 1) := by decide +kernel
theorem d_Law_law_1819 : decode code 1819 = .ok (.iload 4, 2) := by decide +kernel
theorem d_Law_law_1821 : decode code 1821 = .ok (.iconst 1, 1) := by decide +kernel
theorem d_Law_law_1822 : decode code 1822 = .ok (.iadd, 1) := by decide +kernel
theorem d_Law_law_1823 : decode code 1823 = .ok (.iaload, 1) := by decide +kernel
theorem d_Law_law_1824 : decode code 1824 = .ok (.invokevirtual 201, 3) := by decide +kernel
theorem d_Law_law_1827 : decode code 1827 = .ok (.istore 6, 2) := by decide +kernel
theorem d_Law_law_1829 : decode code 1829 = .ok (.aload_n 2, 1) := by decide +kernel
theorem d_Law_law_1830 : decode code 1830 = .ok (.invokevirtual 132, 3) := by decide +kernel
theorem d_Law_law_1833 : decode code 1833 = .ok (.iload 5, 2) := by decide +kernel
theorem d_Law_law_1835 : decode code 1835 = .ok (.if_icmp .eq 5, 3) := by decide +kernel
theorem d_Law_law_1840 : decode code 1840 = .ok (.iload 5, 2) := by decide +kernel
theorem d_Law_law_1842 : decode code 1842 = .ok (.ifCond .ne 15, 3) := by decide +kernel
theorem d_Law_law_1845 : decode code 1845 = .ok (.aload_n 3, 1) := by decide +kernel
theorem d_Law_law_1846 : decode code 1846 = .ok (.iconst 0, 1) := by decide +kernel
theorem d_Law_law_1847 : decode code 1847 = .ok (.laload, 1) := by decide +kernel
theorem d_Law_law_1848 : decode code 1848 = .ok (.iload 6, 2) := by decide +kernel
theorem d_Law_law_1850 : decode code 1850 = .ok (.i2l, 1) := by decide +kernel
theorem d_Law_law_1851 : decode code 1851 = .ok (.lcmp, 1) := by decide +kernel
theorem d_Law_law_1852 : decode code 1852 = .ok (.ifCond .eq 5, 3) := by decide +kernel
theorem d_Law_law_1857 : decode code 1857 = .ok (.goto 660, 3) := by decide +kernel
theorem d_Law_law_1860 : decode code 1860 = .ok (.aload_n 1, 1) := by decide +kernel
theorem d_Law_law_1861 : decode code 1861 = .ok (.aload_n 0, 1) := by decide +kernel
theorem d_Law_law_1862 : decode code 1862 = .ok (.iload 4, 2) := by decide +kernel
theorem d_Law_law_1864 : decode code 1864 = .ok (.iconst 1, 1) := by decide +kernel
theorem d_Law_law_1865 : decode code 1865 = .ok (.iadd, 1) := by decide +kernel
theorem d_Law_law_1866 : decode code 1866 = .ok (.iaload, 1) := by decide +kernel
theorem d_Law_law_1867 : decode code 1867 = .ok (.aload_n 0, 1) := by decide +kernel
theorem d_Law_law_1868 : decode code 1868 = .ok (.iload 4, 2) := by decide +kernel
theorem d_Law_law_1870 : decode code 1870 = .ok (.iconst 2, 1) := by decide +kernel
theorem d_Law_law_1871 : decode code 1871 = .ok (.iadd, 1) := by decide +kernel
theorem d_Law_law_1872 : decode code 1872 = .ok (.iaload, 1) := by decide +kernel
theorem d_Law_law_1873 : decode code 1873 = .ok (.aload_n 3, 1) := by decide +kernel
theorem d_Law_law_1874 : decode code 1874 = .ok (.invokestatic 202, 3) := by decide +kernel
theorem d_Law_law_1877 : decode code 1877 = .ok (.istore 5, 2) := by decide +kernel
theorem d_Law_law_1879 : decode code 1879 = .ok (.aload_n 2, 1) := by decide +kernel
theorem d_Law_law_1880 : decode code 1880 = .ok (.aload_n 0, 1) := by decide +kernel
theorem d_Law_law_1881 : decode code 1881 = .ok (.iload 4, 2) := by decide +kernel
theorem d_Law_law_1883 : decode code 1883 = .ok (.iconst 1, 1) := by decide +kernel
theorem d_Law_law_1884 : decode code 1884 = .ok (.iadd, 1) := by decide +kernel
theorem d_Law_law_1885 : decode code 1885 = .ok (.iaload, 1) := by decide +kernel
theorem d_Law_law_1886 : decode code 1886 = .ok (.aload_n 0, 1) := by decide +kernel
theorem d_Law_law_1887 : decode code 1887 = .ok (.iload 4, 2) := by decide +kernel
theorem d_Law_law_1889 : decode code 1889 = .ok (.iconst 2, 1) := by decide +kernel
theorem d_Law_law_1890 : decode code 1890 = .ok (.iadd, 1) := by decide +kernel
theorem d_Law_law_1891 : decode code 1891 = .ok (.iaload, 1) := by decide +kernel
theorem d_Law_law_1892 : decode code 1892 = .ok (.invokevirtual 204, 3) := by decide +kernel
theorem d_Law_law_1895 : decode code 1895 = .ok (.istore 6, 2) := by decide +kernel
theorem d_Law_law_1897 : decode code 1897 = .ok (.aload_n 2, 1) := by decide +kernel
theorem d_Law_law_1898 : decode code 1898 = .ok (.invokevirtual 132, 3) := by decide +kernel
theorem d_Law_law_1901 : decode code 1901 = .ok (.iload 5, 2) := by decide +kernel
theorem d_Law_law_1903 : decode code 1903 = .ok (.if_icmp .eq 5, 3) := by decide +kernel
theorem d_Law_law_1908 : decode code 1908 = .ok (.iload 5, 2) := by decide +kernel
theorem d_Law_law_1910 : decode code 1910 = .ok (.ifCond .ne 15, 3) := by decide +kernel
theorem d_Law_law_1913 : decode code 1913 = .ok (.aload_n 3, 1) := by decide +kernel
theorem d_Law_law_1914 : decode code 1914 = .ok (.iconst 0, 1) := by decide +kernel
theorem d_Law_law_1915 : decode code 1915 = .ok (.laload, 1) := by decide +kernel
theorem d_Law_law_1916 : decode code 1916 = .ok (.iload 6, 2) := by decide +kernel
theorem d_Law_law_1918 : decode code 1918 = .ok (.i2l, 1) := by decide +kernel
theorem d_Law_law_1919 : decode code 1919 = .ok (.lcmp, 1) := by decide +kernel
theorem d_Law_law_1920 : decode code 1920 = .ok (.ifCond .eq 5, 3) := by decide +kernel
theorem d_Law_law_1925 : decode code 1925 = .ok (.goto 592, 3) := by decide +kernel
theorem d_Law_law_1928 : decode code 1928 = .ok (.aload_n 1, 1) := by decide +kernel
theorem d_Law_law_1929 : decode code 1929 = .ok (.aload_n 0, 1) := by decide +kernel
theorem d_Law_law_1930 : decode code 1930 = .ok (.iload 4, 2) := by decide +kernel
theorem d_Law_law_1932 : decode code 1932 = .ok (.iconst 1, 1) := by decide +kernel
theorem d_Law_law_1933 : decode code 1933 = .ok (.iadd, 1) := by decide +kernel
theorem d_Law_law_1934 : decode code 1934 = .ok (.iaload, 1) := by decide +kernel
theorem d_Law_law_1935 : decode code 1935 = .ok (.aload_n 0, 1) := by decide +kernel
theorem d_Law_law_1936 : decode code 1936 = .ok (.iload 4, 2) := by decide +kernel
theorem d_Law_law_1938 : decode code 1938 = .ok (.iconst 2, 1) := by decide +kernel
theorem d_Law_law_1939 : decode code 1939 = .ok (.iadd, 1) := by decide +kernel
theorem d_Law_law_1940 : decode code 1940 = .ok (.iaload, 1) := by decide +kernel
theorem d_Law_law_1941 : decode code 1941 = .ok (.aload_n 0, 1) := by decide +kernel
theorem d_Law_law_1942 : decode code 1942 = .ok (.iload 4, 2) := by decide +kernel
theorem d_Law_law_1944 : decode code 1944 = .ok (.iconst 3, 1) := by decide +kernel
theorem d_Law_law_1945 : decode code 1945 = .ok (.iadd, 1) := by decide +kernel
theorem d_Law_law_1946 : decode code 1946 = .ok (.iaload, 1) := by decide +kernel
theorem d_Law_law_1947 : decode code 1947 = .ok (.ifCond .eq 7, 3) := by decide +kernel
theorem d_Law_law_1950 : decode code 1950 = .ok (.iconst 1, 1) := by decide +kernel
theorem d_Law_law_1951 : decode code 1951 = .ok (.goto 4, 3) := by decide +kernel
theorem d_Law_law_1954 : decode code 1954 = .ok (.iconst 0, 1) := by decide +kernel
theorem d_Law_law_1955 : decode code 1955 = .ok (.aload_n 3, 1) := by decide +kernel
theorem d_Law_law_1956 : decode code 1956 = .ok (.invokestatic 205, 3) := by decide +kernel
theorem d_Law_law_1959 : decode code 1959 = .ok (.istore 5, 2) := by decide +kernel
theorem d_Law_law_1961 : decode code 1961 = .ok (.aload_n 2, 1) := by decide +kernel
theorem d_Law_law_1962 : decode code 1962 = .ok (.aload_n 0, 1) := by decide +kernel
theorem d_Law_law_1963 : decode code 1963 = .ok (.iload 4, 2) := by decide +kernel
theorem d_Law_law_1965 : decode code 1965 = .ok (.iconst 1, 1) := by decide +kernel
theorem d_Law_law_1966 : decode code 1966 = .ok (.iadd, 1) := by decide +kernel
theorem d_Law_law_1967 : decode code 1967 = .ok (.iaload, 1) := by decide +kernel
theorem d_Law_law_1968 : decode code 1968 = .ok (.aload_n 0, 1) := by decide +kernel
theorem d_Law_law_1969 : decode code 1969 = .ok (.iload 4, 2) := by decide +kernel
theorem d_Law_law_1971 : decode code 1971 = .ok (.iconst 2, 1) := by decide +kernel
theorem d_Law_law_1972 : decode code 1972 = .ok (.iadd, 1) := by decide +kernel
theorem d_Law_law_1973 : decode code 1973 = .ok (.iaload, 1) := by decide +kernel
theorem d_Law_law_1974 : decode code 1974 = .ok (.aload_n 0, 1) := by decide +kernel
theorem d_Law_law_1975 : decode code 1975 = .ok (.iload 4, 2) := by decide +kernel
theorem d_Law_law_1977 : decode code 1977 = .ok (.iconst 3, 1) := by decide +kernel
theorem d_Law_law_1978 : decode code 1978 = .ok (.iadd, 1) := by decide +kernel
theorem d_Law_law_1979 : decode code 1979 = .ok (.iaload, 1) := by decide +kernel
theorem d_Law_law_1980 : decode code 1980 = .ok (.ifCond .eq 7, 3) := by decide +kernel
theorem d_Law_law_1983 : decode code 1983 = .ok (.iconst 1, 1) := by decide +kernel
theorem d_Law_law_1984 : decode code 1984 = .ok (.goto 4, 3) := by decide +kernel
theorem d_Law_law_1987 : decode code 1987 = .ok (.iconst 0, 1) := by decide +kernel
theorem d_Law_law_1988 : decode code 1988 = .ok (.invokevirtual 207, 3) := by decide +kernel
theorem d_Law_law_1991 : decode code 1991 = .ok (.lstore 6, 2) := by decide +kernel
theorem d_Law_law_1993 : decode code 1993 = .ok (.aload_n 2, 1) := by decide +kernel
theorem d_Law_law_1994 : decode code 1994 = .ok (.invokevirtual 132, 3) := by decide +kernel
theorem d_Law_law_1997 : decode code 1997 = .ok (.iload 5, 2) := by decide +kernel
theorem d_Law_law_1999 : decode code 1999 = .ok (.if_icmp .eq 5, 3) := by decide +kernel
theorem d_Law_law_2004 : decode code 2004 = .ok (.iload 5, 2) := by decide +kernel
theorem d_Law_law_2006 : decode code 2006 = .ok (.ifCond .ne 14, 3) := by decide +kernel
theorem d_Law_law_2009 : decode code 2009 = .ok (.aload_n 3, 1) := by decide +kernel
theorem d_Law_law_2010 : decode code 2010 = .ok (.iconst 0, 1) := by decide +kernel
theorem d_Law_law_2011 : decode code 2011 = .ok (.laload, 1) := by decide +kernel
theorem d_Law_law_2012 : decode code 2012 = .ok (.lload 6, 2) := by decide +kernel
theorem d_Law_law_2014 : decode code 2014 = .ok (.lcmp, 1) := by decide +kernel
theorem d_Law_law_2015 : decode code 2015 = .ok (.ifCond .eq 5, 3) := by decide +kernel
theorem d_Law_law_2020 : decode code 2020 = .ok (.goto 497, 3) := by decide +kernel
theorem d_Law_law_2023 : decode code 2023 = .ok (.aload_n 1, 1) := by decide +kernel
theorem d_Law_law_2024 : decode code 2024 = .ok (.aload_n 0, 1) := by decide +kernel
theorem d_Law_law_2025 : decode code 2025 = .ok (.iload 4, 2) := by decide +kernel
theorem d_Law_law_2027 : decode code 2027 = .ok (.iconst 1, 1) := by decide +kernel
theorem d_Law_law_2028 : decode code 2028 = .ok (.iadd, 1) := by decide +kernel
theorem d_Law_law_2029 : decode code 2029 = .ok (.iaload, 1) := by decide +kernel
theorem d_Law_law_2030 : decode code 2030 = .ok (.aload_n 0, 1) := by decide +kernel
theorem d_Law_law_2031 : decode code 2031 = .ok (.iload 4, 2) := by decide +kernel
theorem d_Law_law_2033 : decode code 2033 = .ok (.iconst 2, 1) := by decide +kernel
theorem d_Law_law_2034 : decode code 2034 = .ok (.iadd, 1) := by decide +kernel
theorem d_Law_law_2035 : decode code 2035 = .ok (.iaload, 1) := by decide +kernel
theorem d_Law_law_2036 : decode code 2036 = .ok (.aload_n 3, 1) := by decide +kernel
theorem d_Law_law_2037 : decode code 2037 = .ok (.invokestatic 208, 3) := by decide +kernel
theorem d_Law_law_2040 : decode code 2040 = .ok (.istore 5, 2) := by decide +kernel
theorem d_Law_law_2042 : decode code 2042 = .ok (.aload_n 2, 1) := by decide +kernel
theorem d_Law_law_2043 : decode code 2043 = .ok (.aload_n 0, 1) := by decide +kernel
theorem d_Law_law_2044 : decode code 2044 = .ok (.iload 4, 2) := by decide +kernel
theorem d_Law_law_2046 : decode code 2046 = .ok (.iconst 1, 1) := by decide +kernel
theorem d_Law_law_2047 : decode code 2047 = .ok (.iadd, 1) := by decide +kernel
theorem d_Law_law_2048 : decode code 2048 = .ok (.iaload, 1) := by decide +kernel
theorem d_Law_law_2049 : decode code 2049 = .ok (.aload_n 0, 1) := by decide +kernel
theorem d_Law_law_2050 : decode code 2050 = .ok (.iload 4, 2) := by decide +kernel
theorem d_Law_law_2052 : decode code 2052 = .ok (.iconst 2, 1) := by decide +kernel
theorem d_Law_law_2053 : decode code 2053 = .ok (.iadd, 1) := by decide +kernel
theorem d_Law_law_2054 : decode code 2054 = .ok (.iaload, 1) := by decide +kernel
theorem d_Law_law_2055 : decode code 2055 = .ok (.invokevirtual 210, 3) := by decide +kernel
theorem d_Law_law_2058 : decode code 2058 = .ok (.istore 6, 2) := by decide +kernel
theorem d_Law_law_2060 : decode code 2060 = .ok (.aload_n 2, 1) := by decide +kernel
theorem d_Law_law_2061 : decode code 2061 = .ok (.invokevirtual 132, 3) := by decide +kernel
theorem d_Law_law_2064 : decode code 2064 = .ok (.iload 5, 2) := by decide +kernel
theorem d_Law_law_2066 : decode code 2066 = .ok (.if_icmp .eq 5, 3) := by decide +kernel
theorem d_Law_law_2071 : decode code 2071 = .ok (.iload 5, 2) := by decide +kernel
theorem d_Law_law_2073 : decode code 2073 = .ok (.ifCond .ne 15, 3) := by decide +kernel
theorem d_Law_law_2076 : decode code 2076 = .ok (.aload_n 3, 1) := by decide +kernel
theorem d_Law_law_2077 : decode code 2077 = .ok (.iconst 0, 1) := by decide +kernel
theorem d_Law_law_2078 : decode code 2078 = .ok (.laload, 1) := by decide +kernel
theorem d_Law_law_2079 : decode code 2079 = .ok (.iload 6, 2) := by decide +kernel
theorem d_Law_law_2081 : decode code 2081 = .ok (.i2l, 1) := by decide +kernel
theorem d_Law_law_2082 : decode code 2082 = .ok (.lcmp, 1) := by decide +kernel
theorem d_Law_law_2083 : decode code 2083 = .ok (.ifCond .eq 5, 3) := by decide +kernel
theorem d_Law_law_2088 : decode code 2088 = .ok (.goto 429, 3) := by decide +kernel
theorem d_Law_law_2091 : decode code 2091 = .ok (.aload_n 1, 1) := by decide +kernel
theorem d_Law_law_2092 : decode code 2092 = .ok (.aload_n 0, 1) := by decide +kernel
theorem d_Law_law_2093 : decode code 2093 = .ok (.iload 4, 2) := by decide +kernel
theorem d_Law_law_2095 : decode code 2095 = .ok (.iconst 1, 1) := by decide +kernel
theorem d_Law_law_2096 : decode code 2096 = .ok (.iadd, 1) := by decide +kernel
theorem d_Law_law_2097 : decode code 2097 = .ok (.iaload, 1) := by decide +kernel
theorem d_Law_law_2098 : decode code 2098 = .ok (.aload_n 3, 1) := by decide +kernel
theorem d_Law_law_2099 : decode code 2099 = .ok (.invokestatic 211, 3) := by decide +kernel
theorem d_Law_law_2102 : decode code 2102 = .ok (.istore 5, 2) := by decide +kernel
theorem d_Law_law_2104 : decode code 2104 = .ok (.aload_n 2, 1) := by decide +kernel
theorem d_Law_law_2105 : decode code 2105 = .ok (.aload_n 0, 1) := by decide +kernel
theorem d_Law_law_2106 : decode code 2106 = .ok (.iload 4, 2) := by decide +kernel
theorem d_Law_law_2108 : decode code 2108 = .ok (.iconst 1, 1) := by decide +kernel
theorem d_Law_law_2109 : decode code 2109 = .ok (.iadd, 1) := by decide +kernel
theorem d_Law_law_2110 : decode code 2110 = .ok (.iaload, 1) := by decide +kernel
theorem d_Law_law_2111 : decode code 2111 = .ok (.invokevirtual 213, 3) := by decide +kernel
theorem d_Law_law_2114 : decode code 2114 = .ok (.istore 6, 2) := by decide +kernel
theorem d_Law_law_2116 : decode code 2116 = .ok (.aload_n 2, 1) := by decide +kernel
theorem d_Law_law_2117 : decode code 2117 = .ok (.invokevirtual 132, 3) := by decide +kernel
theorem d_Law_law_2120 : decode code 2120 = .ok (.iload 5, 2) := by decide +kernel
theorem d_Law_law_2122 : decode code 2122 = .ok (.if_icmp .eq 5, 3) := by decide +kernel
theorem d_Law_law_2127 : decode code 2127 = .ok (.iload 5, 2) := by decide +kernel
theorem d_Law_law_2129 : decode code 2129 = .ok (.ifCond .ne 15, 3) := by decide +kernel
theorem d_Law_law_2132 : decode code 2132 = .ok (.aload_n 3, 1) := by decide +kernel
theorem d_Law_law_2133 : decode code 2133 = .ok (.iconst 0, 1) := by decide +kernel
theorem d_Law_law_2134 : decode code 2134 = .ok (.laload, 1) := by decide +kernel
theorem d_Law_law_2135 : decode code 2135 = .ok (.iload 6, 2) := by decide +kernel
theorem d_Law_law_2137 : decode code 2137 = .ok (.i2l, 1) := by decide +kernel
theorem d_Law_law_2138 : decode code 2138 = .ok (.lcmp, 1) := by decide +kernel
theorem d_Law_law_2139 : decode code 2139 = .ok (.ifCond .eq 5, 3) := by decide +kernel
theorem d_Law_law_2144 : decode code 2144 = .ok (.goto 373, 3) := by decide +kernel
theorem d_Law_law_2147 : decode code 2147 = .ok (.aload_n 1, 1) := by decide +kernel
theorem d_Law_law_2148 : decode code 2148 = .ok (.aload_n 0, 1) := by decide +kernel
theorem d_Law_law_2149 : decode code 2149 = .ok (.iload 4, 2) := by decide +kernel
theorem d_Law_law_2151 : decode code 2151 = .ok (.iconst 1, 1) := by decide +kernel
theorem d_Law_law_2152 : decode code 2152 = .ok (.iadd, 1) := by decide +kernel
theorem d_Law_law_2153 : decode code 2153 = .ok (.iaload, 1) := by decide +kernel
theorem d_Law_law_2154 : decode code 2154 = .ok (.aload_n 3, 1) := by decide +kernel
theorem d_Law_law_2155 : decode code 2155 = .ok (.invokestatic 214, 3) := by decide +kernel
theorem d_Law_law_2158 : decode code 2158 = .ok (.istore 5, 2) := by decide +kernel
theorem d_Law_law_2160 : decode code 2160 = .ok (.aload_n 2, 1) := by decide +kernel
theorem d_Law_law_2161 : decode code 2161 = .ok (.aload_n 0, 1) := by decide +kernel
theorem d_Law_law_2162 : decode code 2162 = .ok (.iload 4, 2) := by decide +kernel
theorem d_Law_law_2164 : decode code 2164 = .ok (.iconst 1, 1) := by decide +kernel
theorem d_Law_law_2165 : decode code 2165 = .ok (.iadd, 1) := by decide +kernel
theorem d_Law_law_2166 : decode code 2166 = .ok (.iaload, 1) := by decide +kernel
theorem d_Law_law_2167 : decode code 2167 = .ok (.invokevirtual 216, 3) := by decide +kernel
theorem d_Law_law_2170 : decode code 2170 = .ok (.istore 6, 2) := by decide +kernel
theorem d_Law_law_2172 : decode code 2172 = .ok (.aload_n 2, 1) := by decide +kernel
theorem d_Law_law_2173 : decode code 2173 = .ok (.invokevirtual 132, 3) := by decide +kernel
theorem d_Law_law_2176 : decode code 2176 = .ok (.iload 5, 2) := by decide +kernel
theorem d_Law_law_2178 : decode code 2178 = .ok (.if_icmp .eq 5, 3) := by decide +kernel
theorem d_Law_law_2183 : decode code 2183 = .ok (.iload 5, 2) := by decide +kernel
theorem d_Law_law_2185 : decode code 2185 = .ok (.ifCond .ne 22, 3) := by decide +kernel
theorem d_Law_law_2188 : decode code 2188 = .ok (.aload_n 3, 1) := by decide +kernel
theorem d_Law_law_2189 : decode code 2189 = .ok (.iconst 0, 1) := by decide +kernel
theorem d_Law_law_2190 : decode code 2190 = .ok (.laload, 1) := by decide +kernel
theorem d_Law_law_2191 : decode code 2191 = .ok (.iload 6, 2) := by decide +kernel
theorem d_Law_law_2193 : decode code 2193 = .ok (.ifCond .eq 7, 3) := by decide +kernel
theorem d_Law_law_2196 : decode code 2196 = .ok (.lconst 1, 1) := by decide +kernel
theorem d_Law_law_2197 : decode code 2197 = .ok (.goto 4, 3) := by decide +kernel
theorem d_Law_law_2200 : decode code 2200 = .ok (.lconst 0, 1) := by decide +kernel
theorem d_Law_law_2201 : decode code 2201 = .ok (.lcmp, 1) := by decide +kernel
theorem d_Law_law_2202 : decode code 2202 = .ok (.ifCond .eq 5, 3) := by decide +kernel
theorem d_Law_law_2207 : decode code 2207 = .ok (.goto 310, 3) := by decide +kernel
theorem d_Law_law_2210 : decode code 2210 = .ok (.aload_n 1, 1) := by decide +kernel
theorem d_Law_law_2211 : decode code 2211 = .ok (.aload_n 0, 1) := by decide +kernel
theorem d_Law_law_2212 : decode code 2212 = .ok (.iload 4, 2) := by decide +kernel
theorem d_Law_law_2214 : decode code 2214 = .ok (.iconst 1, 1) := by decide +kernel
theorem d_Law_law_2215 : decode code 2215 = .ok (.iadd, 1) := by decide +kernel
theorem d_Law_law_2216 : decode code 2216 = .ok (.iaload, 1) := by decide +kernel
theorem d_Law_law_2217 : decode code 2217 = .ok (.aload_n 3, 1) := by decide +kernel
theorem d_Law_law_2218 : decode code 2218 = .ok (.invokestatic 217, 3) := by decide +kernel
theorem d_Law_law_2221 : decode code 2221 = .ok (.istore 5, 2) := by decide +kernel
theorem d_Law_law_2223 : decode code 2223 = .ok (.aload_n 2, 1) := by decide +kernel
theorem d_Law_law_2224 : decode code 2224 = .ok (.aload_n 0, 1) := by decide +kernel
theorem d_Law_law_2225 : decode code 2225 = .ok (.iload 4, 2) := by decide +kernel
theorem d_Law_law_2227 : decode code 2227 = .ok (.iconst 1, 1) := by decide +kernel
theorem d_Law_law_2228 : decode code 2228 = .ok (.iadd, 1) := by decide +kernel
theorem d_Law_law_2229 : decode code 2229 = .ok (.iaload, 1) := by decide +kernel
theorem d_Law_law_2230 : decode code 2230 = .ok (.invokevirtual 219, 3) := by decide +kernel
theorem d_Law_law_2233 : decode code 2233 = .ok (.istore 6, 2) := by decide +kernel
theorem d_Law_law_2235 : decode code 2235 = .ok (.aload_n 2, 1) := by decide +kernel
theorem d_Law_law_2236 : decode code 2236 = .ok (.invokevirtual 132, 3) := by decide +kernel
theorem d_Law_law_2239 : decode code 2239 = .ok (.iload 5, 2) := by decide +kernel
theorem d_Law_law_2241 : decode code 2241 = .ok (.if_icmp .eq 5, 3) := by decide +kernel
theorem d_Law_law_2246 : decode code 2246 = .ok (.iload 5, 2) := by decide +kernel
theorem d_Law_law_2248 : decode code 2248 = .ok (.ifCond .ne 15, 3) := by decide +kernel
theorem d_Law_law_2251 : decode code 2251 = .ok (.aload_n 3, 1) := by decide +kernel
theorem d_Law_law_2252 : decode code 2252 = .ok (.iconst 0, 1) := by decide +kernel
theorem d_Law_law_2253 : decode code 2253 = .ok (.laload, 1) := by decide +kernel
theorem d_Law_law_2254 : decode code 2254 = .ok (.iload 6, 2) := by decide +kernel
theorem d_Law_law_2256 : decode code 2256 = .ok (.i2l, 1) := by decide +kernel
theorem d_Law_law_2257 : decode code 2257 = .ok (.lcmp, 1) := by decide +kernel
theorem d_Law_law_2258 : decode code 2258 = .ok (.ifCond .eq 5, 3) := by decide +kernel
theorem d_Law_law_2263 : decode code 2263 = .ok (.goto 254, 3) := by decide +kernel
theorem d_Law_law_2266 : decode code 2266 = .ok (.aload_n 1, 1) := by decide +kernel
theorem d_Law_law_2267 : decode code 2267 = .ok (.aload_n 0, 1) := by decide +kernel
theorem d_Law_law_2268 : decode code 2268 = .ok (.iload 4, 2) := by decide +kernel
theorem d_Law_law_2270 : decode code 2270 = .ok (.iconst 1, 1) := by decide +kernel
theorem d_Law_law_2271 : decode code 2271 = .ok (.iadd, 1) := by decide +kernel
theorem d_Law_law_2272 : decode code 2272 = .ok (.iaload, 1) := by decide +kernel
theorem d_Law_law_2273 : decode code 2273 = .ok (.aload_n 3, 1) := by decide +kernel
theorem d_Law_law_2274 : decode code 2274 = .ok (.invokestatic 220, 3) := by decide +kernel
theorem d_Law_law_2277 : decode code 2277 = .ok (.istore 5, 2) := by decide +kernel
theorem d_Law_law_2279 : decode code 2279 = .ok (.aload_n 2, 1) := by decide +kernel
theorem d_Law_law_2280 : decode code 2280 = .ok (.aload_n 0, 1) := by decide +kernel
theorem d_Law_law_2281 : decode code 2281 = .ok (.iload 4, 2) := by decide +kernel
theorem d_Law_law_2283 : decode code 2283 = .ok (.iconst 1, 1) := by decide +kernel
theorem d_Law_law_2284 : decode code 2284 = .ok (.iadd, 1) := by decide +kernel
theorem d_Law_law_2285 : decode code 2285 = .ok (.iaload, 1) := by decide +kernel
theorem d_Law_law_2286 : decode code 2286 = .ok (.invokevirtual 222, 3) := by decide +kernel
theorem d_Law_law_2289 : decode code 2289 = .ok (.istore 6, 2) := by decide +kernel
theorem d_Law_law_2291 : decode code 2291 = .ok (.aload_n 2, 1) := by decide +kernel
theorem d_Law_law_2292 : decode code 2292 = .ok (.invokevirtual 132, 3) := by decide +kernel
theorem d_Law_law_2295 : decode code 2295 = .ok (.iload 5, 2) := by decide +kernel
theorem d_Law_law_2297 : decode code 2297 = .ok (.if_icmp .eq 5, 3) := by decide +kernel
theorem d_Law_law_2302 : decode code 2302 = .ok (.iload 5, 2) := by decide +kernel
theorem d_Law_law_2304 : decode code 2304 = .ok (.ifCond .ne 15, 3) := by decide +kernel
theorem d_Law_law_2307 : decode code 2307 = .ok (.aload_n 3, 1) := by decide +kernel
theorem d_Law_law_2308 : decode code 2308 = .ok (.iconst 0, 1) := by decide +kernel
theorem d_Law_law_2309 : decode code 2309 = .ok (.laload, 1) := by decide +kernel
theorem d_Law_law_2310 : decode code 2310 = .ok (.iload 6, 2) := by decide +kernel
theorem d_Law_law_2312 : decode code 2312 = .ok (.i2l, 1) := by decide +kernel
theorem d_Law_law_2313 : decode code 2313 = .ok (.lcmp, 1) := by decide +kernel
theorem d_Law_law_2314 : decode code 2314 = .ok (.ifCond .eq 5, 3) := by decide +kernel
theorem d_Law_law_2319 : decode code 2319 = .ok (.goto 198, 3) := by decide +kernel
theorem d_Law_law_2322 : decode code 2322 = .ok (.aload_n 1, 1) := by decide +kernel
theorem d_Law_law_2323 : decode code 2323 = .ok (.invokevirtual 223, 3) := by decide +kernel
theorem d_Law_law_2326 : decode code 2326 = .ok (.aload_n 2, 1) := by decide +kernel
theorem d_Law_law_2327 : decode code 2327 = .ok (.invokevirtual 226, 3) := by decide +kernel
theorem d_Law_law_2330 : decode code 2330 = .ok (.if_icmp .eq 187, 3) := by decide +kernel
theorem d_Law_law_2335 : decode code 2335 = .ok (.aload_n 1, 1) := by decide +kernel
theorem d_Law_law_2336 : decode code 2336 = .ok (.aload_n 0, 1) := by decide +kernel
theorem d_Law_law_2337 : decode code 2337 = .ok (.iload 4, 2) := by decide +kernel
theorem d_Law_law_2339 : decode code 2339 = .ok (.iconst 1, 1) := by decide +kernel
theorem d_Law_law_2340 : decode code 2340 = .ok (.iadd, 1) := by decide +kernel
theorem d_Law_law_2341 : decode code 2341 = .ok (.iaload, 1) := by decide +kernel
theorem d_Law_law_2342 : decode code 2342 = .ok (.aload_n 3, 1) := by decide +kernel
theorem d_Law_law_2343 : decode code 2343 = .ok (.invokestatic 227, 3) := by decide +kernel
theorem d_Law_law_2346 : decode code 2346 = .ok (.istore 5, 2) := by decide +kernel
theorem d_Law_law_2348 : decode code 2348 = .ok (.aload_n 2, 1) := by decide +kernel
theorem d_Law_law_2349 : decode code 2349 = .ok (.aload_n 0, 1) := by decide +kernel
theorem d_Law_law_2350 : decode code 2350 = .ok (.iload 4, 2) := by decide +kernel
theorem d_Law_law_2352 : decode code 2352 = .ok (.iconst 1, 1) := by decide +kernel
theorem d_Law_law_2353 : decode code 2353 = .ok (.iadd, 1) := by decide +kernel
theorem d_Law_law_2354 : decode code 2354 = .ok (.iaload, 1) := by decide +kernel
theorem d_Law_law_2355 : decode code 2355 = .ok (.invokevirtual 229, 3) := by decide +kernel
theorem d_Law_law_2358 : decode code 2358 = .ok (.istore 6, 2) := by decide +kernel
theorem d_Law_law_2360 : decode code 2360 = .ok (.aload_n 2, 1) := by decide +kernel
theorem d_Law_law_2361 : decode code 2361 = .ok (.invokevirtual 132, 3) := by decide +kernel
theorem d_Law_law_2364 : decode code 2364 = .ok (.iload 5, 2) := by decide +kernel
theorem d_Law_law_2366 : decode code 2366 = .ok (.if_icmp .eq 5, 3) := by decide +kernel
theorem d_Law_law_2371 : decode code 2371 = .ok (.iload 5, 2) := by decide +kernel
theorem d_Law_law_2373 : decode code 2373 = .ok (.ifCond .ne 15, 3) := by decide +kernel
theorem d_Law_law_2376 : decode code 2376 = .ok (.aload_n 3, 1) := by decide +kernel
theorem d_Law_law_2377 : decode code 2377 = .ok (.iconst 0, 1) := by decide +kernel
theorem d_Law_law_2378 : decode code 2378 = .ok (.laload, 1) := by decide +kernel
theorem d_Law_law_2379 : decode code 2379 = .ok (.iload 6, 2) := by decide +kernel
theorem d_Law_law_2381 : decode code 2381 = .ok (.i2l, 1) := by decide +kernel
theorem d_Law_law_2382 : decode code 2382 = .ok (.lcmp, 1) := by decide +kernel
theorem d_Law_law_2383 : decode code 2383 = .ok (.ifCond .eq 5, 3) := by decide +kernel
theorem d_Law_law_2388 : decode code 2388 = .ok (.goto 129, 3) := by decide +kernel
theorem d_Law_law_2391 : decode code 2391 = .ok (.aload_n 1, 1) := by decide +kernel
theorem d_Law_law_2392 : decode code 2392 = .ok (.aload_n 0, 1) := by decide +kernel
theorem d_Law_law_2393 : decode code 2393 = .ok (.iload 4, 2) := by decide +kernel
theorem d_Law_law_2395 : decode code 2395 = .ok (.iconst 1, 1) := by decide +kernel
theorem d_Law_law_2396 : decode code 2396 = .ok (.iadd, 1) := by decide +kernel
theorem d_Law_law_2397 : decode code 2397 = .ok (.iaload, 1) := by decide +kernel
theorem d_Law_law_2398 : decode code 2398 = .ok (.aload_n 0, 1) := by decide +kernel
theorem d_Law_law_2399 : decode code 2399 = .ok (.iload 4, 2) := by decide +kernel
theorem d_Law_law_2401 : decode code 2401 = .ok (.iconst 2, 1) := by decide +kernel
theorem d_Law_law_2402 : decode code 2402 = .ok (.iadd, 1) := by decide +kernel
theorem d_Law_law_2403 : decode code 2403 = .ok (.iaload, 1) := by decide +kernel
theorem d_Law_law_2404 : decode code 2404 = .ok (.aload_n 3, 1) := by decide +kernel
theorem d_Law_law_2405 : decode code 2405 = .ok (.invokestatic 230, 3) := by decide +kernel
theorem d_Law_law_2408 : decode code 2408 = .ok (.istore 5, 2) := by decide +kernel
theorem d_Law_law_2410 : decode code 2410 = .ok (.aload_n 2, 1) := by decide +kernel
theorem d_Law_law_2411 : decode code 2411 = .ok (.aload_n 0, 1) := by decide +kernel
theorem d_Law_law_2412 : decode code 2412 = .ok (.iload 4, 2) := by decide +kernel
theorem d_Law_law_2414 : decode code 2414 = .ok (.iconst 1, 1) := by decide +kernel
theorem d_Law_law_2415 : decode code 2415 = .ok (.iadd, 1) := by decide +kernel
theorem d_Law_law_2416 : decode code 2416 = .ok (.iaload, 1) := by decide +kernel
theorem d_Law_law_2417 : decode code 2417 = .ok (.aload_n 0, 1) := by decide +kernel
theorem d_Law_law_2418 : decode code 2418 = .ok (.iload 4, 2) := by decide +kernel
theorem d_Law_law_2420 : decode code 2420 = .ok (.iconst 2, 1) := by decide +kernel
theorem d_Law_law_2421 : decode code 2421 = .ok (.iadd, 1) := by decide +kernel
theorem d_Law_law_2422 : decode code 2422 = .ok (.iaload, 1) := by decide +kernel
theorem d_Law_law_2423 : decode code 2423 = .ok (.invokevirtual 232, 3) := by decide +kernel
theorem d_Law_law_2426 : decode code 2426 = .ok (.istore 6, 2) := by decide +kernel
theorem d_Law_law_2428 : decode code 2428 = .ok (.aload_n 2, 1) := by decide +kernel
theorem d_Law_law_2429 : decode code 2429 = .ok (.invokevirtual 132, 3) := by decide +kernel
theorem d_Law_law_2432 : decode code 2432 = .ok (.iload 5, 2) := by decide +kernel
theorem d_Law_law_2434 : decode code 2434 = .ok (.if_icmp .eq 5, 3) := by decide +kernel
theorem d_Law_law_2439 : decode code 2439 = .ok (.iload 5, 2) := by decide +kernel
theorem d_Law_law_2441 : decode code 2441 = .ok (.ifCond .ne 15, 3) := by decide +kernel
theorem d_Law_law_2444 : decode code 2444 = .ok (.aload_n 3, 1) := by decide +kernel
theorem d_Law_law_2445 : decode code 2445 = .ok (.iconst 0, 1) := by decide +kernel
theorem d_Law_law_2446 : decode code 2446 = .ok (.laload, 1) := by decide +kernel
theorem d_Law_law_2447 : decode code 2447 = .ok (.iload 6, 2) := by decide +kernel
theorem d_Law_law_2449 : decode code 2449 = .ok (.i2l, 1) := by decide +kernel
theorem d_Law_law_2450 : decode code 2450 = .ok (.lcmp, 1) := by decide +kernel
theorem d_Law_law_2451 : decode code 2451 = .ok (.ifCond .eq 5, 3) := by decide +kernel
theorem d_Law_law_2456 : decode code 2456 = .ok (.goto 61, 3) := by decide +kernel
theorem d_Law_law_2459 : decode code 2459 = .ok (.aload_n 1, 1) := by decide +kernel
theorem d_Law_law_2460 : decode code 2460 = .ok (.aload_n 3, 1) := by decide +kernel
theorem d_Law_law_2461 : decode code 2461 = .ok (.invokestatic 233, 3) := by decide +kernel
theorem d_Law_law_2464 : decode code 2464 = .ok (.istore 5, 2) := by decide +kernel
theorem d_Law_law_2466 : decode code 2466 = .ok (.aload_n 2, 1) := by decide +kernel
theorem d_Law_law_2467 : decode code 2467 = .ok (.invokevirtual 236, 3) := by decide +kernel
theorem d_Law_law_2470 : decode code 2470 = .ok (.istore 6, 2) := by decide +kernel
theorem d_Law_law_2472 : decode code 2472 = .ok (.aload_n 2, 1) := by decide +kernel
theorem d_Law_law_2473 : decode code 2473 = .ok (.invokevirtual 132, 3) := by decide +kernel
theorem d_Law_law_2476 : decode code 2476 = .ok (.iload 5, 2) := by decide +kernel
theorem d_Law_law_2478 : decode code 2478 = .ok (.if_icmp .eq 5, 3) := by decide +kernel
theorem d_Law_law_2483 : decode code 2483 = .ok (.iload 5, 2) := by decide +kernel
theorem d_Law_law_2485 : decode code 2485 = .ok (.ifCond .ne 15, 3) := by decide +kernel
theorem d_Law_law_2488 : decode code 2488 = .ok (.aload_n 3, 1) := by decide +kernel
theorem d_Law_law_2489 : decode code 2489 = .ok (.iconst 0, 1) := by decide +kernel
theorem d_Law_law_2490 : decode code 2490 = .ok (.laload, 1) := by decide +kernel
theorem d_Law_law_2491 : decode code 2491 = .ok (.iload 6, 2) := by decide +kernel
theorem d_Law_law_2493 : decode code 2493 = .ok (.i2l, 1) := by decide +kernel
theorem d_Law_law_2494 : decode code 2494 = .ok (.lcmp, 1) := by decide +kernel
theorem d_Law_law_2495 : decode code 2495 = .ok (.ifCond .eq 5, 3) := by decide +kernel
theorem d_Law_law_2500 : decode code 2500 = .ok (.goto 17, 3) := by decide +kernel
theorem d_Law_law_2503 : decode code 2503 = .ok (.aload_n 1, 1) := by decide +kernel
theorem d_Law_law_2504 : decode code 2504 = .ok (.invokevirtual 237, 3) := by decide +kernel
theorem d_Law_law_2507 : decode code 2507 = .ok (.aload_n 2, 1) := by decide +kernel
theorem d_Law_law_2508 : decode code 2508 = .ok (.invokevirtual 241, 3) := by decide +kernel
theorem d_Law_law_2511 : decode code 2511 = .ok (.lcmp, 1) := by decide +kernel
theorem d_Law_law_2512 : decode code 2512 = .ok (.ifCond .eq 5, 3) := by decide +kernel
theorem d_Law_law_2517 : decode code 2517 = .ok (.iinc 4 5, 3) := by decide +kernel
theorem d_Law_law_2520 : decode code 2520 = .ok (.goto (-2497), 3) := by decide +kernel
theorem d_Law_law_2523 : decode code 2523 = .ok (.iconst 1, 1) := by decide +kernel
theorem d_Law_law_2524 : decode code 2524 = .ok (.ireturn, 1) := by decide +kernel
