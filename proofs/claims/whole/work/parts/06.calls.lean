/-! Contracts over a world, calls, ends. -/
def h_A (G : HGeo) : Nat → Prop := fun q => ∃ d, d < h_N ∧ q = G.2.2 d
abbrev h_room (lv : Nat) : Room := { frames := lv, cells := 0, slots := 0, locals := 64 * lv }
def HPc (G : HGeo) (as : List Value) (μ : HMem) : Array Value → State → Prop := va_Pc (h_trs G as) (fun U => va_P G.1 h_cl (h_ws G μ) U.heap ∧ va_K G.1 h_cl (h_tys G) U ∧ h_nw U)
def HQc (G : HGeo) (v : Option Value) (μ' : HMem) : Array Value → State → Outcome → State → Prop := fun _ st o t => o = .returned (v.map (h_tr G)) ∧ va_P G.1 h_cl (h_ws G μ') t.heap ∧ va_F (h_A G) st t
/-- a method's contract: it follows the pure program F -/
def HSpec {R : Type} (y : MethodName) (b : ByteArray) (nL : Nat) (rt : Option FieldType) (lv : Nat) (enc : R → Option Value) (as : List Value) (μ : HMem) (F : Option (R × HMem)) : Prop :=
  ∀ r μ', F = some (r, μ') → ∀ (l : Launch) (G : HGeo), h_inj G → Met l y (.code y b nL rt :: h_tb) (h_room lv) (HPc G as μ) (HQc G (enc r) μ') 0 0 (h_A G)
theorem HPc.blind {G : HGeo} {as : List Value} {μ : HMem} : FrameBlind (HPc G as μ) := fun a U g mk h => ⟨h.1, h.2.1, va_K.moved (u := U) (U := U.calling g mk a) (Vm.Alike.refl U.vm) h.2.2.1, h_nw.same (U := U.calling g mk a) rfl h.2.2.2⟩
def HQ {R : Type} (cx : HCx) (enc : R → Option Value) (r : R) (μ' : HMem) : State → Prop := match cx with
  | (_, _, _, _, s, _, args, below, _, _, G, _) => MQ below (HQc G (enc r) μ') args s 0 0 (h_A G)
/-- the cells that the method may change are the world's -/
def h_own (cx : HCx) : Prop := cx.2.2.2.2.2.2.2.2.2.2.2 = h_A cx.2.2.2.2.2.2.2.2.2.2.1
/-- the locals at the entry -/
theorem HSpec.of {R : Type} {y : MethodName} {b : ByteArray} {nL : Nat} {rt : Option FieldType} {lv : Nat} {enc : R → Option Value} {as : List Value} {μ : HMem} {F : Option (R × HMem)} (hy : plainName y.cls = true) (hcode : Cond.code y b nL rt ∈ h_tb) (hn : (lg_sl as).length ≤ nL)
    (body : ∀ cx : HCx, h_own cx → HGood cx y.cls b nL lv rt → HX cx (HQ cx enc) F 0 0 0 (lv_args 0 as) [] μ) : HSpec y b nL rt lv enc as μ F := by
  intro r μ' hF l G hi
  refine Met.ofW (cc := b) (maxL := nL) (ret := rt) hy rfl ?_
  intro p e s m args below meth c s₁ B hml hv
  obtain ⟨rfl, hP, hK, hnw⟩ := hv
  have hts := atoms_spec (ws := Cond.code y b nL rt :: h_tb) B.pre
  have hg : HGood (p, l, e, h_room lv, s, m, (h_trs G as).toArray, below, meth, c, G, h_A G) y.cls b nL lv rt := ⟨B.exec, B.bytes, hml, findClass_of_methodNamed B.named, fun w hw => hts w (List.mem_cons_of_mem _ hw), hK, hi, fun d hd => ⟨d, hd, rfl⟩, ⟨Nat.le_refl _, Nat.le_refl _⟩, B.notSynchronized, B.returns, hnw⟩
  have hx := body (p, l, e, h_room lv, s, m, (h_trs G as).toArray, below, meth, c, G, h_A G) rfl hg r μ' hF s.heap []
  have hsl : ∀ as : List Value, (lg_sl (h_trs G as)).length = (lg_sl as).length := by
    intro as
    induction as with
    | nil => rfl
    | cons v vs ih =>
      simp only [h_trs, List.map_cons] at ih ⊢
      have e1 : ∀ v vs, (lg_sl (v :: vs)).length = (if v.category = 2 then 2 else 1) + (lg_sl vs).length := by
        intro v vs
        simp only [lg_sl, List.flatMap_cons, List.length_append]
        split <;> simp
      rw [e1, e1, ih, h_tr_cat]
  have hl := lv_entry (h_trs G as) (n := nL) (by rw [hsl]; exact hn)
  rw [lg_entry_eq]
  refine hx _ hP va_S.rf ?_ ⟨Nat.le_refl _, Nat.le_refl _⟩
  rw [← h_args]
  rw [hml]
  exact hl
section HC
variable {p : Program} {l : Launch} {e : Env} {R : Room} {s : State} {m : MethodId} {args : Array Value} {below : List Frame} {meth : Method} {c : Code} {H : Heap} {locs : List Loc} {cells slots : Nat} {Q : State → Prop}
variable {pc : Nat} {ls : Array Slot} {rest st0 : List Value} {A0 A1 : Nat → Prop} {H0 : Heap} {free : Addr → Prop}
theorem h_call {v : Option Value} {P : Heap → Prop} (hr : va_Run p l e R s m args below meth c H locs cells slots 0 0 (F0 m pc ls st0) rest (fun st o t => o = .returned v ∧ P t.heap ∧ va_F A1 st t) free) (hS : va_S A0 H0 H locs) (hA : ∀ q, A1 q → A0 q) (hf : ∀ q, free q → A0 q)
    (kk : ∀ (H1 : Heap) (locs1 : List Loc), P H1 → va_S A0 H0 H1 locs1 → W p l e R s m args below meth c H1 locs1 cells slots Q (F0 m (pc + 3) ls (v.toList ++ rest))) : W p l e R s m args below meth c H locs cells slots Q (F0 m pc ls st0) := by
  intro T hT X
  obtain ⟨v', st₀, t, T', L, h0, X', hL, e1, e2, ⟨hv, hp, hz, hk⟩, st⟩ := hr T hT X
  cases hv
  rw [h0] at hz hk
  obtain ⟨t2, a1, b1⟩ := kk T'.heap (locs ++ L) (by rw [e1]; exact hp)
    ⟨Nat.le_trans hS.1 (by rw [e1]; exact hz), fun q h1 h2 => by rw [e1, hk q (Nat.lt_of_lt_of_le h1 hS.1) (fun z => h2 (hA q z))]; exact hS.2.1 q h1 h2, fun q hq => by
      rcases List.mem_append.mp hq with h | h
      · exact hS.2.2 q h
      · exact hf _ (hL q h)⟩ T' rfl X'
  exact ⟨t2, st t2 a1, b1⟩
end HC
/-- what a call needs of its method -/
def HVirt (y : MethodName) (b : ByteArray) (nL : Nat) (rt : Option FieldType) (n : Nat) : Prop := (∀ w ∈ ([.instanceMethod y, .selects y.cls y y, .initialized y.cls, .code y b nL rt] : List Cond), w ∈ h_tb) ∧ y.cls ≠ "java/lang/invoke/MethodHandle" ∧ y.cls ≠ "java/lang/invoke/VarHandle" ∧ (parseMethodDescriptor y.desc).map (fun d => d.parameters.length) = some n
def HStat (y : MethodName) (b : ByteArray) (nL : Nat) (rt : Option FieldType) (n : Nat) : Prop := (∀ w ∈ ([.static y, .initialized y.cls, .code y b nL rt] : List Cond), w ∈ h_tb) ∧ y.cls ≠ "java/lang/invoke/MethodHandle" ∧ y.cls ≠ "java/lang/invoke/VarHandle" ∧ (parseMethodDescriptor y.desc).map (fun d => d.parameters.length) = some n
section HR3
variable {R R' : Type} {cx : HCx} {Qf : R → HMem → State → Prop} {F A B : Option (R × HMem)} {k n pc : Nat} {l : List (Nat × Value)} {st : List Value} {μ : HMem} {own : String} {b : ByteArray} {nL lv : Nat} {rt : Option FieldType}
theorem h_callB {Rm : Room} {s : State} {args : Array Value} {own : String} {idx : Nat} {y : MethodName} {b' : ByteArray} {nL' lv' N lv : Nat} {rt' : Option FieldType} (ht : ∀ w ∈ h_tb, w.before args s = true) (hw : Cond.methodLink own idx y ∈ h_tb) (hini : Cond.initialized y.cls ∈ h_tb) (hcode : Cond.code y b' nL' rt' ∈ h_tb) (hd : y.cls ≠ "java/lang/invoke/MethodHandle" ∧ y.cls ≠ "java/lang/invoke/VarHandle" ∧ (parseMethodDescriptor y.desc).map (fun d => d.parameters.length) = some N) (hR : lv ≤ Rm.frames ∧ 64 * lv ≤ Rm.locals) (hlv : lv' + 1 ≤ lv ∧ nL' ≤ 45) : CallB Rm s args own idx y b' nL' rt' (.code y b' nL' rt' :: h_tb) (h_room lv') 0 0 N :=
  callB_of (Ts := h_tb) N ht (h_good (fun w hw => (List.mem_cons.mp hw).elim (fun h => h ▸ hcode) id)) rfl rfl rfl (ht _ hini) (ht _ hw) hd ⟨by show lv' + 1 ≤ _; omega, by show 8 + (nL' + 11) + 64 * lv' ≤ _; omega⟩
theorem h_pre {G : HGeo} {s : State} {H : Heap} {as : List Value} {μ : HMem} (hP : va_P G.1 h_cl (h_ws G μ) H) (hK : va_K G.1 h_cl (h_tys G) s) (hnw : h_nw s) : FrameBlind (HPc G as μ) ∧ ∀ U : State, U.heap = H → s.WarmedH U.vm → HPc G as μ (h_trs G as).toArray U :=
  ⟨HPc.blind, fun U hU hW => ⟨rfl, by rw [hU]; exact hP, va_K.moved hW.alike hK, h_nw.warm hW hnw⟩⟩
theorem r_callV (hg : HGood cx own b nL lv rt) {y : MethodName} {b' : ByteArray} {nL' lv' ci N idx a n0 : Nat} {rt' : Option FieldType} {enc : R' → Option Value} {As : List Value} {F' : Option (R' × HMem)} {K : R' → HMem → Option (R × HMem)} {C : String} {T : u_T}
    (hsp : HSpec y b' nL' rt' lv' enc (.ref a :: As) μ F') (hv : HVirt y b' nL' rt' n0) (hc : h_cls ci C T N) (hyc : y.cls = C) (ha : a < h_N) (hk : h_kd a = 10 + ci) (hw : Cond.methodLink own idx y ∈ h_tb) (hd : decode b pc = .ok (.invokevirtual idx, 3)) (hn0 : As.length = n0) (hlv : lv' + 1 ≤ lv ∧ nL' ≤ 45) (hst : (st.map fun v => v.category).sum ≤ 8) {st0 : List Value} (hst0 : st0 = As.reverse ++ .ref a :: st)
    (kk : ∀ r μ1, F' = some (r, μ1) → HX cx Qf (K r μ1) k n (pc + 3) l ((enc r).toList ++ st) μ1) : HX cx Qf (h_bd F' K) k n pc l st0 μ := by
  subst hst0
  obtain ⟨p, lc, e, Rm, s, m, args, below, meth, c, G, A'⟩ := cx
  intro r μ' hF H locs ls hP hS hl hC
  unfold h_bd at hF
  cases hF' : F' with
  | none => rw [hF'] at hF; cases hF
  | some o =>
    obtain ⟨r1, μ1⟩ := o
    rw [hF'] at hF
    obtain ⟨hx, hb, hml, hown, hts, hK, hi, hA, hR, -, -, hnw⟩ := id hg
    have hM := hsp r1 μ1 hF' lc G hi
    have hcb : CallW Rm s args own y.cls idx y b' nL' rt' (.code y b' nL' rt' :: h_tb) (h_room lv') 0 0 n0 := ⟨h_callB hts hw (hv.1 _ (by simp)) (hv.1 _ (by simp)) hv.2 hR hlv, hts _ (hv.1 _ (by simp)), hts _ (hv.1 _ (by simp))⟩
    have hrv : ∃ cellB : Cell, H[G.2.2 a]? = some cellB ∧ cellB.vm.isStatics = false ∧ s.vm.findClass y.cls = some cellB.cls := by
      have := va_recv hK hP hc.1 ((h_ws_at G μ ha).trans (by rw [h_cell_o G μ hk]))
      rw [hyc]; exact this
    have hp := h_pre (as := .ref a :: As) hP hK hnw
    have hrun := va_runV (As := h_trs G As) (rest := h_trs G st) (g := F0 m pc ls (h_trs G (As.reverse ++ .ref a :: st))) (locs := locs) (below := below) (e := e) (cells := k) (slots := n) (R := Rm) (Ts := h_tb) (meth := meth) ⟨hx, hb, rfl, hown, hts⟩ hM hcb ⟨hp.1, hrv, fun U hU hW => by have := hp.2 U hU hW; simpa [h_trs, h_tr] using this⟩ rfl (by simp [h_trs, hn0]) hl.1 (by simp [h_trs, h_tr]) (by rw [h_trs_cat]; simpa using hst) hd hC
    refine h_call (v := (enc r1).map (h_tr G)) (P := fun H => va_P G.1 h_cl (h_ws G μ1) H) (A1 := h_A G) hrun hS (fun q hq => by obtain ⟨d, hd, rfl⟩ := hq; exact hA d hd) (fun q hq => by obtain ⟨d, hd, rfl⟩ := hq; exact hA d hd) (fun H1 locs1 hP1 hS1 => ?_)
    have h9 := kk r1 μ1 hF' r μ' hF H1 locs1 ls hP1 hS1 hl hC
    have e9 : ((enc r1).map (h_tr G)).toList ++ h_trs G st = h_trs G ((enc r1).toList ++ st) := by cases enc r1 <;> rfl
    rw [e9]
    exact h9
theorem r_callS (hg : HGood cx own b nL lv rt) {y : MethodName} {b' : ByteArray} {nL' lv' idx n0 : Nat} {rt' : Option FieldType} {enc : R' → Option Value} {As : List Value} {F' : Option (R' × HMem)} {K : R' → HMem → Option (R × HMem)}
    (hsp : HSpec y b' nL' rt' lv' enc As μ F') (hv : HStat y b' nL' rt' n0) (hw : Cond.methodLink own idx y ∈ h_tb) (hd : decode b pc = .ok (.invokestatic idx, 3)) (hn0 : As.length = n0) (hlv : lv' + 1 ≤ lv ∧ nL' ≤ 45) (hst : (st.map fun v => v.category).sum ≤ 8) {st0 : List Value} (hst0 : st0 = As.reverse ++ st)
    (kk : ∀ r μ1, F' = some (r, μ1) → HX cx Qf (K r μ1) k n (pc + 3) l ((enc r).toList ++ st) μ1) : HX cx Qf (h_bd F' K) k n pc l st0 μ := by
  subst hst0
  obtain ⟨p, lc, e, Rm, s, m, args, below, meth, c, G, A'⟩ := cx
  intro r μ' hF H locs ls hP hS hl hC
  unfold h_bd at hF
  cases hF' : F' with
  | none => rw [hF'] at hF; cases hF
  | some o =>
    obtain ⟨r1, μ1⟩ := o
    rw [hF'] at hF
    obtain ⟨hx, hb, hml, hown, hts, hK, hi, hA, hR, -, -, hnw⟩ := id hg
    have hM := hsp r1 μ1 hF' lc G hi
    have hcb : CallB Rm s args own idx y b' nL' rt' (.code y b' nL' rt' :: h_tb) (h_room lv') 0 0 n0 ∧ (Cond.static y).before args s = true := ⟨h_callB hts hw (hv.1 _ (by simp)) (hv.1 _ (by simp)) hv.2 hR hlv, hts _ (hv.1 _ (by simp))⟩
    have hp := h_pre (as := As) hP hK hnw
    have hrun := va_runS (As := h_trs G As) (rest := h_trs G st) (g := F0 m pc ls (h_trs G (As.reverse ++ st))) (locs := locs) (below := below) (e := e) (cells := k) (slots := n) (R := Rm) (Ts := h_tb) (meth := meth) ⟨hx, hb, rfl, hown, hts⟩ hM hcb ⟨hp.1, hp.2⟩ rfl (by simp [h_trs, hn0]) hl.1 (by simp [h_trs]) (by rw [h_trs_cat]; simpa using hst) hd hC
    refine h_call (v := (enc r1).map (h_tr G)) (P := fun H => va_P G.1 h_cl (h_ws G μ1) H) (A1 := h_A G) hrun hS (fun q hq => by obtain ⟨d, hd, rfl⟩ := hq; exact hA d hd) (fun q hq => by obtain ⟨d, hd, rfl⟩ := hq; exact hA d hd) (fun H1 locs1 hP1 hS1 => ?_)
    have h9 := kk r1 μ1 hF' r μ' hF H1 locs1 ls hP1 hS1 hl hC
    have e9 : ((enc r1).map (h_tr G)).toList ++ h_trs G st = h_trs G ((enc r1).toList ++ st) := by cases enc r1 <;> rfl
    rw [e9]
    exact h9
theorem r_callN (hg : HGood cx own b nL lv rt) {y : MethodName} {b' : ByteArray} {nL' lv' idx n0 : Nat} {rt' : Option FieldType} {enc : R' → Option Value} {As : List Value} {F' : Option (R' × HMem)} {K : R' → HMem → Option (R × HMem)}
    (hsp : HSpec y b' nL' rt' lv' enc As μ F') (hv : HStat y b' nL' rt' n0) {host : String} (hw : (own, idx, y, host) ∈ h_nests) (hd : decode b pc = .ok (.invokestatic idx, 3)) (hn0 : As.length = n0) (hlv : lv' + 1 ≤ lv ∧ nL' ≤ 45) (hst : (st.map fun v => v.category).sum ≤ 8) {st0 : List Value} (hst0 : st0 = As.reverse ++ st)
    (kk : ∀ r μ1, F' = some (r, μ1) → HX cx Qf (K r μ1) k n (pc + 3) l ((enc r).toList ++ st) μ1) : HX cx Qf (h_bd F' K) k n pc l st0 μ := by
  subst hst0
  obtain ⟨p, lc, e, Rm, s, m, args, below, meth, c, G, A'⟩ := cx
  intro r μ' hF H locs ls hP hS hl hC
  unfold h_bd at hF
  cases hF' : F' with
  | none => rw [hF'] at hF; cases hF
  | some o =>
    obtain ⟨r1, μ1⟩ := o
    rw [hF'] at hF
    obtain ⟨hx, hb, hml, hown, hts, hK, hi, hA, hR, -, -, hnw⟩ := id hg
    have hM := hsp r1 μ1 hF' lc G hi
    have hcb : va_CN Rm s args own idx y host b' nL' rt' (.code y b' nL' rt' :: h_tb) (h_room lv') 0 0 n0 ∧ (Cond.static y).before args s = true ∧ True := ⟨va_cnB (Ts := h_tb) n0 hts (h_good (fun w hw => (List.mem_cons.mp hw).elim (fun h => h ▸ hv.1 _ (by simp)) id)) rfl rfl rfl (hnw _ hw) (hts _ (hv.1 _ (by simp))) hv.2 ⟨by show lv' + 1 ≤ _; omega, by show 8 + (nL' + 11) + 64 * lv' ≤ _; omega⟩, hts _ (hv.1 _ (by simp)), trivial⟩
    have hp := h_pre (as := As) hP hK hnw
    have hrun := va_runSN (host := host) (As := h_trs G As) (rest := h_trs G st) (g := F0 m pc ls (h_trs G (As.reverse ++ st))) (locs := locs) (below := below) (e := e) (cells := k) (slots := n) (R := Rm) (Ts := h_tb) (meth := meth) ⟨hx, hb, rfl, hown, hts⟩ hM hcb ⟨hp.1, hp.2⟩ rfl (by simp [h_trs, hn0]) hl.1 (by simp [h_trs]) (by rw [h_trs_cat]; simpa using hst) hd hC
    refine h_call (v := (enc r1).map (h_tr G)) (P := fun H => va_P G.1 h_cl (h_ws G μ1) H) (A1 := h_A G) hrun hS (fun q hq => by obtain ⟨d, hd, rfl⟩ := hq; exact hA d hd) (fun q hq => by obtain ⟨d, hd, rfl⟩ := hq; exact hA d hd) (fun H1 locs1 hP1 hS1 => ?_)
    have h9 := kk r1 μ1 hF' r μ' hF H1 locs1 ls hP1 hS1 hl hC
    have e9 : ((enc r1).map (h_tr G)).toList ++ h_trs G st = h_trs G ((enc r1).toList ++ st) := by cases enc r1 <;> rfl
    rw [e9]
    exact h9
theorem r_iret (hg : HGood cx own b nL lv rt) (hA : h_own cx) {enc : R → Option Value} {r0 : R} {x : Int32} (hr : rt = some .int) (hd : decode b pc = .ok (.ireturn, 1)) (he : enc r0 = some (.int x)) : HX cx (HQ cx enc) (some (r0, μ)) 0 0 pc l [.int x] μ := by
  obtain ⟨p, lc, e, Rm, s, m, args, below, meth, c, G, A'⟩ := cx
  have hA' : A' = h_A G := hA
  subst hA'
  intro r μ' hF H locs ls hP hS hl hC
  cases hF
  obtain ⟨hx, hb, hml, hown, hts, hK, hi, hA, hR, hlk, hrt, hnw⟩ := id hg
  exact W.iret hx hb (hrt.trans hr) (fun t ht hw => ⟨by rw [he]; rfl, by rw [ht]; exact hP, hS.F ht⟩) hS.2.2 hd hlk
theorem r_zret (hg : HGood cx own b nL lv rt) (hA : h_own cx) {enc : R → Option Value} {r0 : R} {x : Int32} (hr : rt = some .boolean) (hz : x &&& 1 = x) (hd : decode b pc = .ok (.ireturn, 1)) (he : enc r0 = some (.int x)) : HX cx (HQ cx enc) (some (r0, μ)) 0 0 pc l [.int x] μ := by
  obtain ⟨p, lc, e, Rm, s, m, args, below, meth, c, G, A'⟩ := cx
  have hA' : A' = h_A G := hA
  subst hA'
  intro r μ' hF H locs ls hP hS hl hC
  cases hF
  obtain ⟨hx, hb, hml, hown, hts, hK, hi, hA, hR, hlk, hrt, hnw⟩ := id hg
  exact W.zret (ty := .boolean) hx hb (hrt.trans hr) (by rw [narrow]; rw [hz]) (fun t ht hw => ⟨by rw [he]; rfl, by rw [ht]; exact hP, hS.F ht⟩) hS.2.2 hd hlk
theorem r_lret (hg : HGood cx own b nL lv rt) (hA : h_own cx) {enc : R → Option Value} {r0 : R} {x : Int64} (hr : rt = some .long) (hd : decode b pc = .ok (.lreturn, 1)) (he : enc r0 = some (.long x)) : HX cx (HQ cx enc) (some (r0, μ)) 0 0 pc l [.long x] μ := by
  obtain ⟨p, lc, e, Rm, s, m, args, below, meth, c, G, A'⟩ := cx
  have hA' : A' = h_A G := hA
  subst hA'
  intro r μ' hF H locs ls hP hS hl hC
  cases hF
  obtain ⟨hx, hb, hml, hown, hts, hK, hi, hA, hR, hlk, hrt, hnw⟩ := id hg
  exact W.lret hx hb (hrt.trans hr) (fun t ht hw => ⟨by rw [he]; rfl, by rw [ht]; exact hP, hS.F ht⟩) hS.2.2 hd hlk
theorem r_vret (hg : HGood cx own b nL lv rt) (hA : h_own cx) {enc : R → Option Value} {r0 : R} (hr : rt = none) (hd : decode b pc = .ok (.return_, 1)) (he : enc r0 = none) : HX cx (HQ cx enc) (some (r0, μ)) 0 0 pc l [] μ := by
  obtain ⟨p, lc, e, Rm, s, m, args, below, meth, c, G, A'⟩ := cx
  have hA' : A' = h_A G := hA
  subst hA'
  intro r μ' hF H locs ls hP hS hl hC
  cases hF
  obtain ⟨hx, hb, hml, hown, hts, hK, hi, hA, hR, hlk, hrt, hnw⟩ := id hg
  exact W.vret hx hb (hrt.trans hr) (fun t ht hw => ⟨by rw [he]; rfl, by rw [ht]; exact hP, hS.F ht⟩) hS.2.2 hd hlk
theorem r_zretB (hg : HGood cx own b nL lv rt) (hA : h_own cx) {enc : Int32 → Option Value} {x : Int32} (hr : rt = some .boolean) (hd : decode b pc = .ok (.ireturn, 1)) (he : enc x = some (.int x)) : HX cx (HQ cx enc) (if x &&& 1 = x then some (x, μ) else none) 0 0 pc l [.int x] μ := by
  by_cases hz : x &&& 1 = x
  · rw [if_pos hz]
    exact r_zret hg hA hr hz hd he
  · rw [if_neg hz]
    exact HX.none
def h_mmax (x y : Int32) : Int32 := if x < y then y else x
theorem r_mmax (hg : HGood cx own b nL lv rt) {x y : Int32} {idx : Nat} (hw : ∀ w ∈ ([.methodLink own idx Lib.Math.max.name, .static Lib.Math.max.name, .initialized "java/lang/Math", .code Lib.Math.max.name Lib.Math.max.code 2 (some .int)] : List Cond), w ∈ h_tb) (hd : decode b pc = .ok (.invokestatic idx, 3)) (hlv : 1 ≤ lv) (hst : (st.map fun v => v.category).sum ≤ 8) (kk : HX cx Qf F k n (pc + 3) l (.int (h_mmax x y) :: st) μ) : HX cx Qf F k n pc l (.int y :: .int x :: st) μ := by
  obtain ⟨p, lc, e, Rm, s, m, args, below, meth, c, G, A'⟩ := cx
  intro r μ' hF H locs ls hP hS hl hC
  obtain ⟨hx, hb, hml, hown, hts, hK, hi, hA, hR, -, -, -⟩ := id hg
  have h0 : ∀ w ∈ ([.methodLink own idx Lib.Math.max.name, .static Lib.Math.max.name, .initialized "java/lang/Math", .code Lib.Math.max.name Lib.Math.max.code 2 (some .int)] : List Cond), w.before args s = true := fun w h => hts w (hw w h)
  exact va_mmax hx hb hl.1.symm hown (h0 (.methodLink own idx Lib.Math.max.name) (by simp)) (h0 _ (by simp)) (h0 _ (by simp)) (h0 _ (by simp)) (by omega) (by have e9 := h_trs_cat G st; simp only [h_trs] at e9; show (List.map (fun v => v.category) (List.map (h_tr G) st)).sum + 13 ≤ _; rw [e9]; omega) hC.1 hC.2 hd (kk r μ' hF H locs ls hP hS hl hC)
def h_mmin (x y : Int32) : Int32 := if y < x then y else x
theorem r_mmin (hg : HGood cx own b nL lv rt) {x y : Int32} {idx : Nat} (hw : ∀ w ∈ ([.methodLink own idx Lib.Math.min.name, .static Lib.Math.min.name, .initialized "java/lang/Math", .code Lib.Math.min.name Lib.Math.min.code 2 (some .int)] : List Cond), w ∈ h_tb) (hd : decode b pc = .ok (.invokestatic idx, 3)) (hlv : 1 ≤ lv) (hst : (st.map fun v => v.category).sum ≤ 8) (kk : HX cx Qf F k n (pc + 3) l (.int (h_mmin x y) :: st) μ) : HX cx Qf F k n pc l (.int y :: .int x :: st) μ := by
  obtain ⟨p, lc, e, Rm, s, m, args, below, meth, c, G, A'⟩ := cx
  intro r μ' hF H locs ls hP hS hl hC
  obtain ⟨hx, hb, hml, hown, hts, hK, hi, hA, hR, -, -, -⟩ := id hg
  have h0 : ∀ w ∈ ([.methodLink own idx Lib.Math.min.name, .static Lib.Math.min.name, .initialized "java/lang/Math", .code Lib.Math.min.name Lib.Math.min.code 2 (some .int)] : List Cond), w.before args s = true := fun w h => hts w (hw w h)
  exact va_mmin hx hb hl.1.symm hown (h0 (.methodLink own idx Lib.Math.min.name) (by simp)) (h0 _ (by simp)) (h0 _ (by simp)) (h0 _ (by simp)) (by omega) (by have e9 := h_trs_cat G st; simp only [h_trs] at e9; show (List.map (fun v => v.category) (List.map (h_tr G) st)).sum + 13 ≤ _; rw [e9]; omega) hC.1 hC.2 hd (kk r μ' hF H locs ls hP hS hl hC)
def h_mabs (x : Int32) : Int32 := if 0 ≤ x then x else 0 - x
theorem r_mabs (hg : HGood cx own b nL lv rt) {x : Int32} {idx : Nat} (hw : ∀ w ∈ ([.methodLink own idx Lib.Math.abs.name, .static Lib.Math.abs.name, .initialized "java/lang/Math", .code Lib.Math.abs.name Lib.Math.abs.code 1 (some .int)] : List Cond), w ∈ h_tb) (hd : decode b pc = .ok (.invokestatic idx, 3)) (hlv : 1 ≤ lv) (hst : (st.map fun v => v.category).sum ≤ 8) (kk : HX cx Qf F k n (pc + 3) l (.int (h_mabs x) :: st) μ) : HX cx Qf F k n pc l (.int x :: st) μ := by
  obtain ⟨p, lc, e, Rm, s, m, args, below, meth, c, G, A'⟩ := cx
  intro r μ' hF H locs ls hP hS hl hC
  obtain ⟨hx, hb, hml, hown, hts, hK, hi, hA, hR, -, -, -⟩ := id hg
  have h0 : ∀ w ∈ ([.methodLink own idx Lib.Math.abs.name, .static Lib.Math.abs.name, .initialized "java/lang/Math", .code Lib.Math.abs.name Lib.Math.abs.code 1 (some .int)] : List Cond), w.before args s = true := fun w h => hts w (hw w h)
  exact va_mabs hx hb hl.1.symm hown (h0 (.methodLink own idx Lib.Math.abs.name) (by simp)) (h0 _ (by simp)) (h0 _ (by simp)) (h0 _ (by simp)) (by omega) (by have e9 := h_trs_cat G st; simp only [h_trs] at e9; show (List.map (fun v => v.category) (List.map (h_tr G) st)).sum + 13 ≤ _; rw [e9]; omega) hC.1 hC.2 hd (kk r μ' hF H locs ls hP hS hl hC)
/-- System.arraycopy -/
def h_chk2 {R : Type} (sp dp n : Int32) (n0 n1 : Nat) (F : Option R) : Option R := if sp < 0 ∨ dp < 0 ∨ n < 0 ∨ n0 < sp.toNatClampNeg + n.toNatClampNeg ∨ n1 < dp.toNatClampNeg + n.toNatClampNeg then none else F
def h_cpi (μ : HMem) (a0 sp a1 dp n : Nat) : HMem := (fun a => if a = a1 then va_cpy (μ.1 a0) (μ.1 a1) sp dp n else μ.1 a, μ.2)
def h_cpl (μ : HMem) (a0 sp a1 dp n : Nat) : HMem := (μ.1, fun a => if a = a1 then va_cpy (μ.2 a0) (μ.2 a1) sp dp n else μ.2 a)
theorem h_cell_cpi (G : HGeo) (μ : HMem) (a0 sp a1 dp n : Nat) {d : Nat} (h : d ≠ a1) : h_cell G (h_cpi μ a0 sp a1 dp n) d = h_cell G μ d := by
  have e : ∀ k q, h_fv G (h_cpi μ a0 sp a1 dp n) d k q = h_fv G μ d k q := fun k q => by simp [h_fv, h_cpi, h]
  simp only [h_cell, e]
  simp [h_cpi, h]
theorem h_cell_cpl (G : HGeo) (μ : HMem) (a0 sp a1 dp n : Nat) {d : Nat} (h : d ≠ a1) : h_cell G (h_cpl μ a0 sp a1 dp n) d = h_cell G μ d := by
  have e : ∀ k q, h_fv G (h_cpl μ a0 sp a1 dp n) d k q = h_fv G μ d k q := fun k q => by simp [h_fv, h_cpl, h]
  simp only [h_cell, e]
  simp [h_cpl, h]
theorem r_cpi (hg : HGood cx own b nL lv rt) {sp dp j : Int32} {a0 a1 idx : Nat} (ha0 : a0 < h_N) (hk0 : h_kd a0 = 1) (ha1 : a1 < h_N) (hk1 : h_kd a1 = 1) (hw : ∀ w ∈ ([.methodLink own idx arraycopyName, .native arraycopyName, .static arraycopyName, .initialized "java/lang/System"] : List Cond), w ∈ h_tb) (hd : decode b pc = .ok (.invokestatic idx, 3)) (hlv : 1 ≤ lv) (hst : (st.map fun v => v.category).sum ≤ 8) (kk : HX cx Qf F k n (pc + 3) l st (h_cpi μ a0 sp.toNatClampNeg a1 dp.toNatClampNeg j.toNatClampNeg)) : HX cx Qf (h_chk2 sp dp j (h_len a0) (h_len a1) F) k n pc l (.int j :: .int dp :: .ref a1 :: .int sp :: .ref a0 :: st) μ := by
  obtain ⟨p, lc, e, Rm, s, m, args, below, meth, c, G, A'⟩ := cx
  intro r μ' hF H locs ls hP hS hl hC
  unfold h_chk2 at hF
  split at hF
  · cases hF
  · rename_i hn
    simp only [not_or, Nat.not_lt] at hn
    obtain ⟨h1, h2, h3, h4, h5⟩ := hn
    obtain ⟨hx, hb, hml, hown, hts, hK, hi, hA, hR, -, -, hnw⟩ := id hg
    have h0 : ∀ w ∈ ([.methodLink own idx arraycopyName, .native arraycopyName, .static arraycopyName, .initialized "java/lang/System"] : List Cond), w.before args s = true := fun w h => hts w (hw w h)
    have hnfw : nativeFrameWords "java/lang/System" "arraycopy" 5 + 11 ≤ 50 := by decide +kernel
    refine va_copyi hx hb hl.1.symm hown (h0 (.methodLink own idx arraycopyName) (by simp)) (h0 _ (by simp)) (h0 _ (by simp)) (h0 _ (by simp)) hK hP (h_D hi hA μ) hS a0 a1 0 0 (f := μ.1 a0) (g := μ.1 a1) ((h_ws_at G μ ha0).trans (by rw [h_cell_1 G μ hk0])) ((h_ws_at G μ ha1).trans (by rw [h_cell_1 G μ hk1])) rfl rfl rfl h1 h2 h3 h4 h5 (fun _ _ => rfl) (by omega) (by have e9 := h_trs_cat G st; simp only [h_trs] at e9; rw [e9]; omega) hd (fun H1 locs1 hP1 _ hS1 => ?_)
    rw [h_ws_set G μ (h_cpi μ a0 sp.toNatClampNeg a1 dp.toNatClampNeg j.toNatClampNeg) ha1 ((h_cell_1 G _ hk1).trans ?_) (fun d hd => h_cell_cpi G μ _ _ _ _ _ hd)] at hP1
    · exact kk r μ' hF H1 locs1 ls hP1 hS1 hl hC
    · simp [h_cpi]
theorem r_cpl (hg : HGood cx own b nL lv rt) {sp dp j : Int32} {a0 a1 idx : Nat} (ha0 : a0 < h_N) (hk0 : h_kd a0 = 4) (ha1 : a1 < h_N) (hk1 : h_kd a1 = 4) (hw : ∀ w ∈ ([.methodLink own idx arraycopyName, .native arraycopyName, .static arraycopyName, .initialized "java/lang/System"] : List Cond), w ∈ h_tb) (hd : decode b pc = .ok (.invokestatic idx, 3)) (hlv : 1 ≤ lv) (hst : (st.map fun v => v.category).sum ≤ 8) (kk : HX cx Qf F k n (pc + 3) l st (h_cpl μ a0 sp.toNatClampNeg a1 dp.toNatClampNeg j.toNatClampNeg)) : HX cx Qf (h_chk2 sp dp j (h_len a0) (h_len a1) F) k n pc l (.int j :: .int dp :: .ref a1 :: .int sp :: .ref a0 :: st) μ := by
  obtain ⟨p, lc, e, Rm, s, m, args, below, meth, c, G, A'⟩ := cx
  intro r μ' hF H locs ls hP hS hl hC
  unfold h_chk2 at hF
  split at hF
  · cases hF
  · rename_i hn
    simp only [not_or, Nat.not_lt] at hn
    obtain ⟨h1, h2, h3, h4, h5⟩ := hn
    obtain ⟨hx, hb, hml, hown, hts, hK, hi, hA, hR, -, -, hnw⟩ := id hg
    have h0 : ∀ w ∈ ([.methodLink own idx arraycopyName, .native arraycopyName, .static arraycopyName, .initialized "java/lang/System"] : List Cond), w.before args s = true := fun w h => hts w (hw w h)
    have hnfw : nativeFrameWords "java/lang/System" "arraycopy" 5 + 11 ≤ 50 := by decide +kernel
    refine va_copyl hx hb hl.1.symm hown (h0 (.methodLink own idx arraycopyName) (by simp)) (h0 _ (by simp)) (h0 _ (by simp)) (h0 _ (by simp)) hK hP (h_D hi hA μ) hS a0 a1 3 3 (f := μ.2 a0) (g := μ.2 a1) ((h_ws_at G μ ha0).trans (by rw [h_cell_4 G μ hk0])) ((h_ws_at G μ ha1).trans (by rw [h_cell_4 G μ hk1])) rfl rfl rfl h1 h2 h3 h4 h5 (fun _ _ => rfl) (by omega) (by have e9 := h_trs_cat G st; simp only [h_trs] at e9; rw [e9]; omega) hd (fun H1 locs1 hP1 _ hS1 => ?_)
    rw [h_ws_set G μ (h_cpl μ a0 sp.toNatClampNeg a1 dp.toNatClampNeg j.toNatClampNeg) ha1 ((h_cell_4 G _ hk1).trans ?_) (fun d hd => h_cell_cpl G μ _ _ _ _ _ hd)] at hP1
    · exact kk r μ' hF H1 locs1 ls hP1 hS1 hl hC
    · simp [h_cpl]
end HR3
