/-! The law's body, from its loop on. -/
def hB (k n B : Nat) : Prop := k + B ≤ 600000 ∧ n + 6 * B ≤ 7200000
/-- what the law's body stands on: the script lies at the id 144 -/
def HLaw (cx : HCx) (xs : Nat → Int32) (L : Nat) : Prop := match cx with
  | (_, lc, _, Rm, s, _, args, _, _, _, G, A) => lc.stackTraces = false ∧ h_xs s ∧ h_xz A s s.heap ∧ Rm = room_1 ∧ va_X (G.2.2 144) L xs s s.heap ∧ G.2.2 144 < s.heap.size ∧ (A = fun q : Nat => s.heap.size ≤ q) ∧ args = #[Value.ref (G.2.2 144)]
def h_lawQ (cx : HCx) : Unit → HMem → State → Prop := match cx with
  | (_, _, _, _, s, _, _, below, _, _, G, _) => fun _ _ => lw_Z below #[Value.ref (G.2.2 144)] s
section HRL
variable {R R' : Type} {cx : HCx} {Qf : R → HMem → State → Prop} {F A B : Option (R × HMem)} {k n pc : Nat} {l : List (Nat × Value)} {st : List Value} {μ : HMem} {own : String} {b : ByteArray} {nL lv L : Nat} {rt : Option FieldType} {xs : Nat → Int32}
theorem r_sld (hg : HGood cx own b nL lv rt) (hT : HLaw cx xs L) {i : Int32} (hd : decode b pc = .ok (.iaload, 1)) (kk : HX cx Qf F k n (pc + 1) l (.int (xs i.toNatClampNeg) :: st) μ) : HX cx Qf (h_chk i L F) k n pc l (.int i :: .ref 144 :: st) μ := by
  obtain ⟨p, lc, e, Rm, s, m, args, below, meth, c, G, A'⟩ := cx
  intro r μ' hF H locs ls hP hS hl hC
  obtain ⟨hi, hF⟩ := h_chk_some hF
  obtain ⟨htr, hxs, hxz, hR, hX, hbl, hA, hargs⟩ := id hT
  exact va_sld hg.1 hg.2.1 hX hbl (by rw [hA]; exact Nat.not_le.mpr hbl) hS hi hd (kk r μ' hF H locs ls hP hS hl hC)
theorem r_slen (hg : HGood cx own b nL lv rt) (hT : HLaw cx xs L) (hd : decode b pc = .ok (.arraylength, 1)) (kk : HX cx Qf F k n (pc + 1) l (.int (nI L) :: st) μ) : HX cx Qf F k n pc l (.ref 144 :: st) μ := by
  obtain ⟨p, lc, e, Rm, s, m, args, below, meth, c, G, A'⟩ := cx
  intro r μ' hF H locs ls hP hS hl hC
  obtain ⟨htr, hxs, hxz, hR, hX, hbl, hA, hargs⟩ := id hT
  exact va_slen hg.1 hg.2.1 hX hbl (by rw [hA]; exact Nat.not_le.mpr hbl) hS hd (kk r μ' hF H locs ls hP hS hl hC)
theorem r_lawret (hg : HGood cx own b nL lv rt) (hT : HLaw cx xs L) {k0 n0 B0 : Nat} (hkn : hB k n B0) (hb : b = code) (hr : rt = ret) (hd : decode code pc = .ok (.ireturn, 1)) : HX cx (h_lawQ cx) (some ((), μ)) k n pc l [.int 1] μ := by
  obtain ⟨p, lc, e, Rm, s, m, args, below, meth, c, G, A'⟩ := cx
  intro r μ' hF H locs ls hP hS hl hC
  obtain ⟨htr, hxs, hxz, hR, hX, hbl, hA, hargs⟩ := id hT
  obtain ⟨hx, hb0, hml, hown, hts, hK, hi, hAd, hR2, hlk, hrt, hnw⟩ := id hg
  subst hR
  subst hargs
  refine va_forget (fun q hq => by have := hS.2.2 q hq; rw [hA] at this; exact this) ?_
  unfold hB at hkn
  refine W.widen (k := 601024) (n := 7293034) (by omega) (by omega) ?_
  exact lw_ret hx (hb0.trans hb) (hrt.trans hr) hlk hd
theorem h_callM {p : Program} {l : Launch} {e : Env} {R : Room} {s : State} {m : MethodId} {args : Array Value} {below : List Frame} {meth : Method} {c : Code} {H : Heap} {locs : List Loc} {cells slots mc ms : Nat} {Q : State → Prop} {pc : Nat} {ls : Array Slot} {rest st0 : List Value} {A0 A1 : Nat → Prop} {H0 : Heap} {free : Addr → Prop} {v : Option Value} {P : Heap → Prop} (hr : va_Run p l e R s m args below meth c H locs cells slots mc ms (F0 m pc ls st0) rest (fun st o t => o = .returned v ∧ P t.heap ∧ va_F A1 st t) free) (hS : va_S A0 H0 H locs) (hA : ∀ q, A1 q → A0 q) (hf : ∀ q, free q → A0 q)
    (kk : ∀ (H1 : Heap) (locs1 : List Loc), P H1 → va_S A0 H0 H1 locs1 → W p l e R s m args below meth c H1 locs1 (cells + mc) (slots + ms) Q (F0 m (pc + 3) ls (v.toList ++ rest))) : W p l e R s m args below meth c H locs cells slots Q (F0 m pc ls st0) := by
  intro T hT X
  obtain ⟨v', st₀, t, T', L, h0, X', hL, e1, e2, ⟨hv, hp, hF⟩, st⟩ := hr T hT X
  cases hv
  obtain ⟨t2, a1, b1⟩ := kk T'.heap (locs ++ L) (by rw [e1]; exact hp) (h_keep h0 e1 hS hA hf hL hF) T' rfl X'
  exact ⟨t2, st t2 a1, b1⟩
theorem r_wcall (hg : HGood cx own b nL lv rt) (hT : HLaw cx xs L) {y : MethodName} {b' : ByteArray} {nL' lv' mc' idx n0 B0 : Nat} {rt' : Option FieldType} {hh : List (Nat × Nat × Nat × Nat)} {enc : R' → Option Value} {As : List Value} {F' : Option (R' × HMem)} {K : R' → HMem → Option (R × HMem)}
    (hsp : HSpecW y b' nL' rt' hh lv' mc' enc As μ F') (hv : HStatW y b' nL' rt' hh n0) (hw : Cond.methodLink own idx y ∈ h_tb) (hd : decode b pc = .ok (.invokestatic idx, 3)) (hn0 : As.length = n0) (hlv : lv' + 1 ≤ lv ∧ nL' ≤ 45) (hkn : hB k n (B0 + 16)) (hmc : mc' ≤ 16) (hst : (st.map fun v => v.category).sum ≤ 8) {st0 : List Value} (hst0 : st0 = As.reverse ++ st)
    (kk : ∀ r μ1, F' = some (r, μ1) → ∀ k' n', hB k' n' B0 → HX cx Qf (K r μ1) k' n' (pc + 3) l ((enc r).toList ++ st) μ1) : HX cx Qf (h_bd F' K) k n pc l st0 μ := by
  subst hst0
  obtain ⟨p, lc, e, Rm, s, m, args, below, meth, c, G, A'⟩ := cx
  intro r μ' hF H locs ls hP hS hl hC
  obtain ⟨htr, hxs, hxz, hRm, hX, hbl, hA, hargs⟩ := id hT
  unfold h_bd at hF
  cases hF' : F' with
  | none => rw [hF'] at hF; cases hF
  | some o =>
    obtain ⟨r1, μ1⟩ := o
    rw [hF'] at hF
    obtain ⟨hx, hb, hml, hown, hts, hK, hi, hAd, hR, -, -, hnw⟩ := id hg
    have hM := hsp r1 μ1 hF' lc G htr hi
    unfold hB at hkn
    have hC2 : k + mc' ≤ Rm.cells ∧ n + 6 * mc' ≤ Rm.slots := by
      rw [hRm]
      show k + mc' ≤ 601024 ∧ n + 6 * mc' ≤ 7293034
      omega
    have hcw : vx_CSW Rm s args own idx y b' nL' rt' hh (.codeWith y b' nL' rt' hh :: h_tb) (h_roomx lv' mc') mc' (6 * mc') n0 := by
      have ht : ∀ w ∈ ([.static y, .initialized y.cls, .codeWith y b' nL' rt' hh] : List Cond), w.before args s = true := fun w hw => hts w (hv.1 w hw)
      refine ⟨⟨rfl, rfl, by show lv' + 1 ≤ _; omega, by show 8 + (nL' + 11) + 64 * lv' ≤ _; omega, pay_in hts (h_good (fun w hw => (List.mem_cons.mp hw).elim (fun h => h ▸ hv.1 _ (by simp)) id)), List.mem_cons_self⟩, ht _ (by simp), ht _ (by simp), ⟨hv.2.1, hv.2.2.1⟩, fun sig h => ?_, hts _ hw, ht _ (by simp)⟩
      have h2 := hv.2.2.2
      rw [h] at h2
      exact (Option.some.inj h2).symm
    have hp := h_prex (as := As) hP hK hnw hxs hxz hS hAd
    have hrun := vx_runSW (As := h_trs G As) (rest := h_trs G st) (g := F0 m pc ls (h_trs G (As.reverse ++ st))) (locs := locs) (below := below) (e := e) (cells := k) (slots := n) (R := Rm) (Ts := h_tb) (meth := meth) ⟨hx, hb, rfl, hown, hts⟩ hM hcw ⟨hp.1, hp.2⟩ rfl (by simp [h_trs, hn0]) hl.1 (by simp [h_trs]) (by rw [h_trs_cat]; simpa using hst) hd hC2
    have hAA : ∀ q, h_A G q → A' q := fun q hq => by obtain ⟨d, hd, rfl⟩ := hq; exact hAd d hd
    refine h_callM (v := (enc r1).map (h_tr G)) (P := fun H => va_P G.1 h_cl (h_ws G μ1) H) (A1 := h_A G) hrun hS hAA hAA (fun H1 locs1 hP1 hS1 => ?_)
    have h9 := kk r1 μ1 hF' (k + mc') (n + 6 * mc') ⟨by omega, by omega⟩ r μ' hF H1 locs1 ls hP1 hS1 hl hC2
    have e9 : ((enc r1).map (h_tr G)).toList ++ h_trs G st = h_trs G ((enc r1).toList ++ st) := by cases enc r1 <;> rfl
    rw [e9]
    exact h9
end HRL
theorem hB.less {k n B : Nat} (h : hB k n (B + 16)) : hB k n B := ⟨by have := h.1; omega, by have := h.2; omega⟩
theorem wm_Law_126 : Cond.methodLink R_Law 126 y_Law_setSize ∈ h_tb := h_inI 492 (by decide +kernel) rfl
theorem wm_Law_131 : Cond.methodLink R_Law 131 y_Model_setSize ∈ h_tb := h_inI 1211 (by decide +kernel) rfl
theorem wm_Law_132 : Cond.methodLink R_Law 132 y_Model_thrown ∈ h_tb := h_inI 1207 (by decide +kernel) rfl
theorem wm_Law_135 : Cond.methodLink R_Law 135 y_Law_setVertex ∈ h_tb := h_inI 607 (by decide +kernel) rfl
theorem wm_Law_138 : Cond.methodLink R_Law 138 y_Model_setVertex ∈ h_tb := h_inI 1245 (by decide +kernel) rfl
theorem wm_Law_139 : Cond.methodLink R_Law 139 y_Law_setEdge ∈ h_tb := h_inI 618 (by decide +kernel) rfl
theorem wm_Law_142 : Cond.methodLink R_Law 142 y_Model_setEdge ∈ h_tb := h_inI 1257 (by decide +kernel) rfl
theorem wm_Law_143 : Cond.methodLink R_Law 143 y_Law_make ∈ h_tb := h_inI 629 (by decide +kernel) rfl
theorem wm_Law_145 : Cond.methodLink R_Law 145 y_Model_make ∈ h_tb := h_inI 1269 (by decide +kernel) rfl
theorem wm_Law_146 : Cond.methodLink R_Law 146 y_Law_random ∈ h_tb := h_inI 655 (by decide +kernel) rfl
theorem wm_Law_148 : Cond.methodLink R_Law 148 y_Model_random ∈ h_tb := h_inI 1276 (by decide +kernel) rfl
theorem wm_Law_149 : Cond.methodLink R_Law 149 y_Law_combine ∈ h_tb := h_inI 672 (by decide +kernel) rfl
theorem wm_Law_151 : Cond.methodLink R_Law 151 y_Model_combine ∈ h_tb := h_inI 1286 (by decide +kernel) rfl
theorem wm_Law_152 : Cond.methodLink R_Law 152 y_Law_derive ∈ h_tb := h_inI 724 (by decide +kernel) rfl
theorem wm_Law_154 : Cond.methodLink R_Law 154 y_Model_derive ∈ h_tb := h_inI 1305 (by decide +kernel) rfl
theorem wm_Law_155 : Cond.methodLink R_Law 155 y_Law_graph ∈ h_tb := h_inI 741 (by decide +kernel) rfl
theorem wm_Law_157 : Cond.methodLink R_Law 157 y_Model_graph ∈ h_tb := h_inI 1364 (by decide +kernel) rfl
theorem wm_Law_158 : Cond.methodLink R_Law 158 y_Law_vertex ∈ h_tb := h_inI 754 (by decide +kernel) rfl
theorem wm_Law_160 : Cond.methodLink R_Law 160 y_Model_vertex ∈ h_tb := h_inI 1384 (by decide +kernel) rfl
theorem wm_Law_161 : Cond.methodLink R_Law 161 y_Law_edge ∈ h_tb := h_inI 761 (by decide +kernel) rfl
theorem wm_Law_163 : Cond.methodLink R_Law 163 y_Model_edge ∈ h_tb := h_inI 1391 (by decide +kernel) rfl
theorem wm_Law_164 : Cond.methodLink R_Law 164 y_Law_greedy ∈ h_tb := h_inI 768 (by decide +kernel) rfl
theorem wm_Law_166 : Cond.methodLink R_Law 166 y_Model_greedy ∈ h_tb := h_inI 1395 (by decide +kernel) rfl
theorem wm_Law_167 : Cond.methodLink R_Law 167 y_Law_width ∈ h_tb := h_inI 792 (by decide +kernel) rfl
theorem wm_Law_170 : Cond.methodLink R_Law 170 y_Model_width ∈ h_tb := h_inI 1411 (by decide +kernel) rfl
theorem wm_Law_171 : Cond.methodLink R_Law 171 y_Law_treewidth ∈ h_tb := h_inI 808 (by decide +kernel) rfl
theorem wm_Law_174 : Cond.methodLink R_Law 174 y_Model_treewidth ∈ h_tb := h_inI 1419 (by decide +kernel) rfl
theorem wm_Law_175 : Cond.methodLink R_Law 175 y_Law_bag ∈ h_tb := h_inI 815 (by decide +kernel) rfl
theorem wm_Law_177 : Cond.methodLink R_Law 177 y_Model_bag ∈ h_tb := h_inI 1431 (by decide +kernel) rfl
theorem wm_Law_178 : Cond.methodLink R_Law 178 y_Law_count ∈ h_tb := h_inI 822 (by decide +kernel) rfl
theorem wm_Law_180 : Cond.methodLink R_Law 180 y_Model_count ∈ h_tb := h_inI 1435 (by decide +kernel) rfl
theorem wm_Law_181 : Cond.methodLink R_Law 181 y_Law_density ∈ h_tb := h_inI 895 (by decide +kernel) rfl
theorem wm_Law_183 : Cond.methodLink R_Law 183 y_Model_density ∈ h_tb := h_inI 1467 (by decide +kernel) rfl
theorem wm_Law_184 : Cond.methodLink R_Law 184 y_Law_automorphisms ∈ h_tb := h_inI 906 (by decide +kernel) rfl
theorem wm_Law_186 : Cond.methodLink R_Law 186 y_Model_automorphisms ∈ h_tb := h_inI 1471 (by decide +kernel) rfl
theorem wm_Law_187 : Cond.methodLink R_Law 187 y_Law_isomorphic ∈ h_tb := h_inI 913 (by decide +kernel) rfl
theorem wm_Law_189 : Cond.methodLink R_Law 189 y_Model_isomorphic ∈ h_tb := h_inI 1483 (by decide +kernel) rfl
theorem wm_Law_190 : Cond.methodLink R_Law 190 y_Law_image ∈ h_tb := h_inI 928 (by decide +kernel) rfl
theorem wm_Law_192 : Cond.methodLink R_Law 192 y_Model_image ∈ h_tb := h_inI 1487 (by decide +kernel) rfl
theorem wm_Law_193 : Cond.methodLink R_Law 193 y_Law_compare ∈ h_tb := h_inI 943 (by decide +kernel) rfl
theorem wm_Law_195 : Cond.methodLink R_Law 195 y_Model_compare ∈ h_tb := h_inI 1495 (by decide +kernel) rfl
theorem wm_Law_196 : Cond.methodLink R_Law 196 y_Law_colorings ∈ h_tb := h_inI 950 (by decide +kernel) rfl
theorem wm_Law_198 : Cond.methodLink R_Law 198 y_Model_colorings ∈ h_tb := h_inI 1503 (by decide +kernel) rfl
theorem wm_Law_199 : Cond.methodLink R_Law 199 y_Law_chromatic ∈ h_tb := h_inI 964 (by decide +kernel) rfl
theorem wm_Law_201 : Cond.methodLink R_Law 201 y_Model_chromatic ∈ h_tb := h_inI 1515 (by decide +kernel) rfl
theorem wm_Law_202 : Cond.methodLink R_Law 202 y_Law_independent ∈ h_tb := h_inI 971 (by decide +kernel) rfl
theorem wm_Law_204 : Cond.methodLink R_Law 204 y_Model_independent ∈ h_tb := h_inI 1519 (by decide +kernel) rfl
theorem wm_Law_205 : Cond.methodLink R_Law 205 y_Law_walks ∈ h_tb := h_inI 979 (by decide +kernel) rfl
theorem wm_Law_207 : Cond.methodLink R_Law 207 y_Model_walks ∈ h_tb := h_inI 1527 (by decide +kernel) rfl
theorem wm_Law_208 : Cond.methodLink R_Law 208 y_Law_folds ∈ h_tb := h_inI 999 (by decide +kernel) rfl
theorem wm_Law_210 : Cond.methodLink R_Law 210 y_Model_folds ∈ h_tb := h_inI 1535 (by decide +kernel) rfl
theorem wm_Law_211 : Cond.methodLink R_Law 211 y_Law_dismantle ∈ h_tb := h_inI 1010 (by decide +kernel) rfl
theorem wm_Law_213 : Cond.methodLink R_Law 213 y_Model_dismantle ∈ h_tb := h_inI 1547 (by decide +kernel) rfl
theorem wm_Law_214 : Cond.methodLink R_Law 214 y_Law_isCore ∈ h_tb := h_inI 1026 (by decide +kernel) rfl
theorem wm_Law_216 : Cond.methodLink R_Law 216 y_Model_isCore ∈ h_tb := h_inI 1555 (by decide +kernel) rfl
theorem wm_Law_217 : Cond.methodLink R_Law 217 y_Law_coreSize ∈ h_tb := h_inI 1033 (by decide +kernel) rfl
theorem wm_Law_219 : Cond.methodLink R_Law 219 y_Model_coreSize ∈ h_tb := h_inI 1559 (by decide +kernel) rfl
theorem wm_Law_220 : Cond.methodLink R_Law 220 y_Law_append ∈ h_tb := h_inI 1040 (by decide +kernel) rfl
theorem wm_Law_222 : Cond.methodLink R_Law 222 y_Model_append ∈ h_tb := h_inI 1567 (by decide +kernel) rfl
theorem wm_Law_223 : Cond.methodLink R_Law 223 y_Bench_clearText ∈ h_tb := h_inI 367 (by decide +kernel) rfl
theorem wm_Law_226 : Cond.methodLink R_Law 226 y_Model_clearText ∈ h_tb := h_inI 1571 (by decide +kernel) rfl
theorem wm_Law_227 : Cond.methodLink R_Law 227 y_Law_parse ∈ h_tb := h_inI 1048 (by decide +kernel) rfl
theorem wm_Law_229 : Cond.methodLink R_Law 229 y_Model_parse ∈ h_tb := h_inI 1575 (by decide +kernel) rfl
theorem wm_Law_230 : Cond.methodLink R_Law 230 y_Law_written ∈ h_tb := h_inI 1085 (by decide +kernel) rfl
theorem wm_Law_232 : Cond.methodLink R_Law 232 y_Model_written ∈ h_tb := h_inI 1599 (by decide +kernel) rfl
theorem wm_Law_233 : Cond.methodLink R_Law 233 y_Law_undo ∈ h_tb := h_inI 1109 (by decide +kernel) rfl
theorem wm_Law_236 : Cond.methodLink R_Law 236 y_Model_undo ∈ h_tb := h_inI 1619 (by decide +kernel) rfl
theorem wm_Law_237 : Cond.methodLink R_Law 237 y_Bench_digest ∈ h_tb := h_inI 371 (by decide +kernel) rfl
theorem wm_Law_241 : Cond.methodLink R_Law 241 y_Model_digest ∈ h_tb := h_inI 1623 (by decide +kernel) rfl
