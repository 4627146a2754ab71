/-! Methods that throw, and the law's methods that catch. -/
def h_ex : Nat → String
  | 1 => "java/lang/IndexOutOfBoundsException"
  | 2 => "java/lang/IllegalArgumentException"
  | _ => "java/lang/IllegalStateException"
def h_decls : List MethodName := [⟨"java/lang/RuntimeException", "<init>", "()V"⟩, ⟨"java/lang/RuntimeException", "<init>", "(Ljava/lang/String;)V"⟩, ⟨"java/lang/Exception", "<init>", "()V"⟩, ⟨"java/lang/Exception", "<init>", "(Ljava/lang/String;)V"⟩, ⟨"java/lang/Throwable", "<init>", "()V"⟩, ⟨"java/lang/Throwable", "<init>", "(Ljava/lang/String;)V"⟩]
def h_casts : List String := [h_ex 1, h_ex 2, h_ex 3]
def h_ncs : List (String × String) := [(h_ex 2, h_ex 1), (h_ex 3, h_ex 1), (h_ex 1, h_ex 2), (h_ex 3, h_ex 2), (h_ex 1, h_ex 3), (h_ex 2, h_ex 3)]
def h_strs : List (Nat × String) := [(305, "no such graph"), (310, "an argument is out of range"), (308, "no such vertex"), (131, "too many vertices"), (188, "not an order of all vertices"), (312, "the first graph is large"), (223, "the second graph has no vertices"), (263, "the text is full"), (275, "the index is negative"), (283, "there is no saved state")]
/-- what throwing needs of the tables .. -/
def h_xs (U : State) : Prop := (∀ x ∈ h_decls, va_Nw (.declares x) U) ∧ (∀ x ∈ h_casts, va_Nw (.castable x x) U) ∧ (∀ q ∈ h_ncs, va_Nc q.1 q.2 U) ∧ (∀ q ∈ h_strs, ∃ sa, vk_R "HomBench" q.1 q.2 sa U)
/-- .. and of the heap -/
def h_xz (A : Nat → Prop) (U : State) (H : Heap) : Prop := vx_Zq Bundle.tN "UNASSIGNED_STACK" Bundle.steD A U H ∧ vx_Zq Bundle.tN "SUPPRESSED_SENTINEL" Bundle.listD A U H
theorem h_xs.warm {s U : State} (hW : s.WarmedH U.vm) (h : h_xs s) : h_xs U := ⟨fun x hx => va_Nw.warmD hW (h.1 x hx), fun x hx => va_Nw.warmC hW (h.2.1 x hx), fun q hq => va_Nc.moved hW.alike (h.2.2.1 q hq), fun q hq => by obtain ⟨sa, hs⟩ := h.2.2.2 q hq; exact ⟨sa, vk_R.warm hW hs⟩⟩
theorem h_xs.same {s U : State} (hv : s.vm = U.vm) (h : h_xs s) : h_xs U := ⟨fun x hx => va_Nw.same rfl hv (h.1 x hx), fun x hx => va_Nw.same rfl hv (h.2.1 x hx), fun q hq => va_Nc.moved (by rw [hv]; exact Vm.Alike.refl _) (h.2.2.1 q hq), fun q hq => by obtain ⟨sa, hs⟩ := h.2.2.2 q hq; exact ⟨sa, vk_R.same hv.symm hs⟩⟩
abbrev h_roomx (lv mc : Nat) : Room := { frames := lv, cells := mc, slots := 6 * mc, locals := 64 * lv }
def HPx (G : HGeo) (as : List Value) (μ : HMem) : Array Value → State → Prop := va_Pc (h_trs G as) (fun U => va_P G.1 h_cl (h_ws G μ) U.heap ∧ va_K G.1 h_cl (h_tys G) U ∧ h_nw U ∧ h_xs U ∧ h_xz (h_A G) U U.heap)
theorem HPx.blind {G : HGeo} {as : List Value} {μ : HMem} : FrameBlind (HPx G as μ) := fun a U g mk h => ⟨h.1, h.2.1, va_K.moved (u := U) (U := U.calling g mk a) (Vm.Alike.refl U.vm) h.2.2.1, h_nw.same (U := U.calling g mk a) rfl h.2.2.2.1, h_xs.same (U := U.calling g mk a) rfl h.2.2.2.2.1, vx_Zq.moved (u := U) (U := U.calling g mk a) (Vm.Alike.refl U.vm) h.2.2.2.2.2.1, vx_Zq.moved (u := U) (U := U.calling g mk a) (Vm.Alike.refl U.vm) h.2.2.2.2.2.2⟩
def hx_Qc {R : Type} (G : HGeo) (enc : R → Option Value) (o : R ⊕ Nat) (μ' : HMem) : Array Value → State → Outcome → State → Prop := match o with
  | .inl r => HQc G (enc r) μ'
  | .inr _ => fun _ _ _ _ => False
def hx_XC {R : Type} (G : HGeo) (o : R ⊕ Nat) (μ' : HMem) : String → State → State → Prop := match o with
  | .inl _ => fun _ _ _ => False
  | .inr k => fun E st t => E = h_ex k ∧ va_P G.1 h_cl (h_ws G μ') t.heap ∧ va_F (h_A G) st t
/-- the contract of a method that may throw -/
def HSpecX {R : Type} (y : MethodName) (b : ByteArray) (nL : Nat) (rt : Option FieldType) (lev mc : Nat) (enc : R → Option Value) (as : List Value) (μ : HMem) (F : Option ((R ⊕ Nat) × HMem)) : Prop :=
  ∀ o μ', F = some (o, μ') → ∀ (l : Launch) (G : HGeo), l.stackTraces = false → h_inj G → vx_Met l y (.code y b nL rt :: h_tb) (h_roomx lev mc) (HPx G as μ) (hx_Qc G enc o μ') (hx_XC G o μ') mc (6 * mc) (h_A G)
def HQx {R : Type} (cx : HCx) (mc : Nat) (enc : R → Option Value) (o : R ⊕ Nat) (μ' : HMem) : State → Prop := match cx with
  | (_, _, _, _, s, _, args, below, _, _, G, _) => vx_MQ below (hx_Qc G enc o μ') (hx_XC G o μ') args s mc (6 * mc) (h_A G)
/-- what a body that throws stands on besides -/
def HThr (cx : HCx) (mc : Nat) : Prop := match cx with
  | (_, l, _, R, s, _, _, _, _, c, _, A) => l.stackTraces = false ∧ h_xs s ∧ h_xz A s s.heap ∧ (∀ x ∈ c.exceptionTable.toList, False) ∧ mc ≤ R.cells ∧ 6 * mc ≤ R.slots
theorem HSpecX.of {R : Type} {y : MethodName} {b : ByteArray} {nL : Nat} {rt : Option FieldType} {lv mc : Nat} {enc : R → Option Value} {as : List Value} {μ : HMem} {F : Option ((R ⊕ Nat) × HMem)} (hy : plainName y.cls = true) (hcode : Cond.code y b nL rt ∈ h_tb) (hn : (lg_sl as).length ≤ nL)
    (body : ∀ cx : HCx, h_own cx → HGood cx y.cls b nL lv rt → HThr cx mc → HX cx (HQx cx mc enc) F 0 0 0 (lv_args 0 as) [] μ) : HSpecX y b nL rt lv mc enc as μ F := by
  intro r μ' hF l G htr hi
  refine vx_ofW (cc := b) (maxL := nL) (ret := rt) hy rfl ?_
  intro p e s m args below meth c s₁ B hml hex hv
  obtain ⟨rfl, hP, hK, hnw, hxs, hxz⟩ := hv
  have hts := atoms_spec (ws := Cond.code y b nL rt :: h_tb) B.pre
  have hg : HGood (p, l, e, h_roomx lv mc, s, m, (h_trs G as).toArray, below, meth, c, G, h_A G) y.cls b nL lv rt := ⟨B.exec, B.bytes, hml, findClass_of_methodNamed B.named, fun w hw => hts w (List.mem_cons_of_mem _ hw), hK, hi, fun d hd => ⟨d, hd, rfl⟩, ⟨Nat.le_refl _, Nat.le_refl _⟩, B.notSynchronized, B.returns, hnw⟩
  have hx := body (p, l, e, h_roomx lv mc, s, m, (h_trs G as).toArray, below, meth, c, G, h_A G) rfl hg ⟨htr, hxs, hxz, hex, Nat.le_refl _, Nat.le_refl _⟩ r μ' hF s.heap []
  have hsl : ∀ as : List Value, (lg_sl (h_trs G as)).length = (lg_sl as).length := by
    intro as
    induction as with
    | nil => rfl
    | cons v vs ih =>
      simp only [h_trs, List.map_cons] at ih ⊢
      have e1 : ∀ v vs, (lg_sl (v :: vs)).length = (if v.category = 2 then 2 else 1) + (lg_sl vs).length := by
        intro v vs
        simp only [lg_sl, List.flatMap_cons, List.length_append]
        split <;> simp
      rw [e1, e1, ih, h_tr_cat]
  have hl := lv_entry (h_trs G as) (n := nL) (by rw [hsl]; exact hn)
  rw [lg_entry_eq]
  refine hx _ hP va_S.rf ?_ ⟨Nat.zero_le _, Nat.zero_le _⟩
  rw [← h_args]
  rw [hml]
  exact hl
/-- what comes behind a call that may throw: by its outcome -/
def h_bdx {R R' : Type} (F : Option ((R' ⊕ Nat) × HMem)) (K : R' → HMem → Option ((R ⊕ Nat) × HMem)) : Option ((R ⊕ Nat) × HMem) := match F with
  | none => none
  | some (.inl r, μ) => K r μ
  | some (.inr e, μ) => some (.inr e, μ)
/-- .. where it is caught: h e the answer of the handler -/
def h_bdt {R R' : Type} (F : Option ((R' ⊕ Nat) × HMem)) (h : Nat → Option R) (K : R' → HMem → Option (R × HMem)) : Option (R × HMem) := match F with
  | none => none
  | some (.inl r, μ) => K r μ
  | some (.inr e, μ) => (h e).map (fun r => (r, μ))
section HCX
variable {p : Program} {l : Launch} {e : Env} {R : Room} {s : State} {m : MethodId} {args : Array Value} {below : List Frame} {meth : Method} {c : Code} {H : Heap} {locs : List Loc} {cells slots mc ms : Nat} {Q : State → Prop}
variable {pc : Nat} {ls : Array Slot} {rest st0 : List Value} {A0 A1 : Nat → Prop} {H0 : Heap} {free : Addr → Prop}
theorem h_keep {st₀ t T' : State} {L : List Loc} (h0 : st₀.heap = H) (e1 : T'.heap = t.heap) (hS : va_S A0 H0 H locs) (hA : ∀ q, A1 q → A0 q) (hf : ∀ q, free q → A0 q) (hL : ∀ q ∈ L, free q.base) (hF : va_F A1 st₀ t) : va_S A0 H0 T'.heap (locs ++ L) :=
  (vx_keep h0 e1 hS (fun q _ h => hA q h) hf hL hF).2.2
theorem h_callN {v : Option Value} {P : Heap → Prop} {XC : String → State → State → Prop} (hr : vx_Run p l e R s m args below meth c H locs cells slots mc ms (F0 m pc ls st0) rest (fun st o t => o = .returned v ∧ P t.heap ∧ va_F A1 st t) XC free) (hX : ∀ E st t, ¬ XC E st t) (hS : va_S A0 H0 H locs) (hA : ∀ q, A1 q → A0 q) (hf : ∀ q, free q → A0 q)
    (kk : ∀ (H1 : Heap) (locs1 : List Loc), P H1 → va_S A0 H0 H1 locs1 → W p l e R s m args below meth c H1 locs1 (cells + mc) (slots + ms) Q (F0 m (pc + 3) ls (v.toList ++ rest))) : W p l e R s m args below meth c H locs cells slots Q (F0 m pc ls st0) := by
  intro T hT X
  rcases hr T hT X with ⟨v', st₀, t, T', L, h0, X', hL, e1, e2, ⟨hv, hp, hF⟩, st⟩ | ⟨q, st₀, t, T', L, E, ce, h0, X', hL, e1, e2, hx, hce, hcv, hcl, st⟩
  · cases hv
    obtain ⟨t2, a1, b1⟩ := kk T'.heap (locs ++ L) (by rw [e1]; exact hp) (h_keep h0 e1 hS hA hf hL hF) T' rfl X'
    exact ⟨t2, st t2 a1, b1⟩
  · exact absurd hx (hX _ _ _)
theorem h_callT {E0 : String} {P : Heap → Prop} {Qa : State → Outcome → State → Prop} (hr : vx_Run p l e R s m args below meth c H locs cells slots mc ms (F0 m pc ls st0) rest Qa (fun E st t => E = E0 ∧ P t.heap ∧ va_F A1 st t) free) (hQ : ∀ st o t, ¬ Qa st o t) (hS : va_S A0 H0 H locs) (hA : ∀ q, A1 q → A0 q) (hf : ∀ q, free q → A0 q)
    (kk : ∀ (H1 : Heap) (locs1 : List Loc) (q : Addr) (ce : Cell), P H1 → va_S A0 H0 H1 locs1 → H1[q]? = some ce → ce.vm = .none → s.vm.findClass E0 = some ce.cls → vx_W p l e R s m args below meth c H1 locs1 (cells + mc) (slots + ms) Q (F0 m pc ls rest) q) : W p l e R s m args below meth c H locs cells slots Q (F0 m pc ls st0) := by
  intro T hT X
  rcases hr T hT X with ⟨v', st₀, t, T', L, h0, X', hL, e1, e2, hq, st⟩ | ⟨q, st₀, t, T', L, E, ce, h0, X', hL, e1, e2, ⟨rfl, hp, hF⟩, hce, hcv, hcl, st⟩
  · exact absurd hq (hQ _ _ _)
  · obtain ⟨t2, a1, b1⟩ := kk T'.heap (locs ++ L) q ce (by rw [e1]; exact hp) (h_keep h0 e1 hS hA hf hL hF) (by rw [e1]; exact hce) hcv hcl T' rfl X'
    exact ⟨t2, st.trans a1, b1⟩
end HCX
section HRX
variable {R R' : Type} {cx : HCx} {k n pc mc : Nat} {l : List (Nat × Value)} {st : List Value} {μ : HMem} {own : String} {b : ByteArray} {nL lv : Nat} {rt : Option FieldType}
theorem h_callBx {Rm : Room} {s : State} {args : Array Value} {own : String} {idx : Nat} {y : MethodName} {b' : ByteArray} {nL' lv' mc' N lv : Nat} {rt' : Option FieldType} (ht : ∀ w ∈ h_tb, w.before args s = true) (hw : Cond.methodLink own idx y ∈ h_tb) (hini : Cond.initialized y.cls ∈ h_tb) (hcode : Cond.code y b' nL' rt' ∈ h_tb) (hd : y.cls ≠ "java/lang/invoke/MethodHandle" ∧ y.cls ≠ "java/lang/invoke/VarHandle" ∧ (parseMethodDescriptor y.desc).map (fun d => d.parameters.length) = some N) (hR : lv ≤ Rm.frames ∧ 64 * lv ≤ Rm.locals) (hlv : lv' + 1 ≤ lv ∧ nL' ≤ 45) : CallB Rm s args own idx y b' nL' rt' (.code y b' nL' rt' :: h_tb) (h_roomx lv' mc') mc' (6 * mc') N :=
  callB_of (Ts := h_tb) N ht (h_good (fun w hw => (List.mem_cons.mp hw).elim (fun h => h ▸ hcode) id)) rfl rfl rfl (ht _ hini) (ht _ hw) hd ⟨by show lv' + 1 ≤ _; omega, by show 8 + (nL' + 11) + 64 * lv' ≤ _; omega⟩
theorem h_prex {G : HGeo} {A : Nat → Prop} {s : State} {H : Heap} {locs : List Loc} {as : List Value} {μ : HMem} (hP : va_P G.1 h_cl (h_ws G μ) H) (hK : va_K G.1 h_cl (h_tys G) s) (hnw : h_nw s) (hxs : h_xs s) (hxz : h_xz A s s.heap) (hS : va_S A s.heap H locs) (hA : ∀ d, d < h_N → A (G.2.2 d)) : FrameBlind (HPx G as μ) ∧ ∀ U : State, U.heap = H → s.WarmedH U.vm → HPx G as μ (h_trs G as).toArray U := by
  refine ⟨HPx.blind, fun U hU hW => ⟨rfl, by rw [hU]; exact hP, va_K.moved hW.alike hK, h_nw.warm hW hnw, h_xs.warm hW hxs, ?_, ?_⟩⟩
  · rw [hU]
    exact (vx_Zq.moved hW.alike (hxz.1.kept hS.2.1)).narrow (fun q hq => by obtain ⟨d, hd, rfl⟩ := hq; exact hA d hd)
  · rw [hU]
    exact (vx_Zq.moved hW.alike (hxz.2.kept hS.2.1)).narrow (fun q hq => by obtain ⟨d, hd, rfl⟩ := hq; exact hA d hd)
/-- a call of a method that may throw, whose throw goes on -/
theorem r_xcall {enc : R → Option Value} {enc' : R' → Option Value} {mc' : Nat} {F' : Option ((R' ⊕ Nat) × HMem)} {K : R' → HMem → Option ((R ⊕ Nat) × HMem)} {rest st0 : List Value} (hg : HGood cx own b nL lv rt) (hA : h_own cx) (hT : HThr cx mc) (hkn : k + mc' ≤ mc ∧ n = 6 * k)
    (hrun : match cx with
      | (p, lc, e, Rm, s, m, args, below, meth, c, G, A) => ∀ o μ1, F' = some (o, μ1) → ∀ (H : Heap) (locs : List Loc) (ls : Array Slot), va_P G.1 h_cl (h_ws G μ) H → va_S A s.heap H locs → lv_has ls c.maxLocals (h_trl G l) → k + mc' ≤ Rm.cells ∧ n + 6 * mc' ≤ Rm.slots →
        vx_Run p lc e Rm s m args below meth c H locs k n mc' (6 * mc') (F0 m pc ls (h_trs G st0)) (h_trs G rest) (fun st o' t => hx_Qc G enc' o μ1 #[] st o' t) (hx_XC G o μ1) (h_A G))
    (kk : ∀ r μ1, F' = some (.inl r, μ1) → HX cx (HQx cx mc enc) (K r μ1) (k + mc') (n + 6 * mc') (pc + 3) l ((enc' r).toList ++ rest) μ1) : HX cx (HQx cx mc enc) (h_bdx F' K) k n pc l st0 μ := by
  obtain ⟨p, lc, e, Rm, s, m, args, below, meth, c, G, A'⟩ := cx
  have hA' : A' = h_A G := hA
  intro r μ' hF H locs ls hP hS hl hC
  obtain ⟨htr, hxs, hxz, hex, hmc, hms⟩ := id hT
  have hcs : k + mc' ≤ Rm.cells ∧ n + 6 * mc' ≤ Rm.slots := ⟨by omega, by omega⟩
  unfold h_bdx at hF
  cases hF' : F' with
  | none => rw [hF'] at hF; cases hF
  | some o =>
    obtain ⟨o1, μ1⟩ := o
    rw [hF'] at hF
    have hr := hrun o1 μ1 hF' H locs ls hP hS hl hcs
    have hAA : ∀ q, h_A G q → A' q := fun q hq => by rw [hA']; exact hq
    cases o1 with
    | inl r1 =>
      refine h_callN (v := (enc' r1).map (h_tr G)) (P := fun H => va_P G.1 h_cl (h_ws G μ1) H) (A1 := h_A G) hr (fun _ _ _ h => h) hS hAA hAA (fun H1 locs1 hP1 hS1 => ?_)
      have h9 := kk r1 μ1 hF' r μ' hF H1 locs1 ls hP1 hS1 hl hcs
      have e9 : ((enc' r1).map (h_tr G)).toList ++ h_trs G rest = h_trs G ((enc' r1).toList ++ rest) := by cases enc' r1 <;> rfl
      rw [e9]
      exact h9
    | inr k1 =>
      cases hF
      refine h_callT (E0 := h_ex k1) (P := fun H => va_P G.1 h_cl (h_ws G μ') H) (A1 := h_A G) hr (fun _ _ _ h => h) hS hAA hAA (fun H1 locs1 q ce hP1 hS1 hce hcv hcl => ?_)
      obtain ⟨hx, hb, hml, hown, hts, hK, hi, hAd, hR, hlk, hrt, hnw⟩ := id hg
      refine vx_out (fun x hx => absurd (hex x hx) id) hlk hce hcv hcl (fun t ht _ => ⟨rfl, by rw [ht]; exact hP1, by rw [← hA']; exact hS1.F ht⟩) (fun z hz => by rw [← hA']; exact hS1.2.2 z hz) (by omega) (by omega)
theorem r_xcallV (hg : HGood cx own b nL lv rt) (hA : h_own cx) (hT : HThr cx mc) {y : MethodName} {b' : ByteArray} {nL' lv' mc' ci N idx a n0 : Nat} {rt' : Option FieldType} {enc : R → Option Value} {enc' : R' → Option Value} {As : List Value} {F' : Option ((R' ⊕ Nat) × HMem)} {K : R' → HMem → Option ((R ⊕ Nat) × HMem)} {C : String} {T : u_T}
    (hsp : HSpecX y b' nL' rt' lv' mc' enc' (.ref a :: As) μ F') (hv : HVirt y b' nL' rt' n0) (hc : h_cls ci C T N) (hyc : y.cls = C) (ha : a < h_N) (hk : h_kd a = 10 + ci) (hw : Cond.methodLink own idx y ∈ h_tb) (hd : decode b pc = .ok (.invokevirtual idx, 3)) (hn0 : As.length = n0) (hlv : lv' + 1 ≤ lv ∧ nL' ≤ 45) (hkn : k + mc' ≤ mc ∧ n = 6 * k) (hst : (st.map fun v => v.category).sum ≤ 8) {st0 : List Value} (hst0 : st0 = As.reverse ++ .ref a :: st)
    (kk : ∀ r μ1, F' = some (.inl r, μ1) → HX cx (HQx cx mc enc) (K r μ1) (k + mc') (n + 6 * mc') (pc + 3) l ((enc' r).toList ++ st) μ1) : HX cx (HQx cx mc enc) (h_bdx F' K) k n pc l st0 μ := by
  subst hst0
  refine r_xcall hg hA hT hkn ?_ kk
  obtain ⟨p, lc, e, Rm, s, m, args, below, meth, c, G, A'⟩ := cx
  intro o μ1 hF' H locs ls hP hS hl hcs
  obtain ⟨hx, hb, hml, hown, hts, hK, hi, hAd, hR, -, -, hnw⟩ := id hg
  obtain ⟨htr, hxs, hxz, hex, hmc, hms⟩ := id hT
  have hM := hsp o μ1 hF' lc G htr hi
  have hcb : CallW Rm s args own y.cls idx y b' nL' rt' (.code y b' nL' rt' :: h_tb) (h_roomx lv' mc') mc' (6 * mc') n0 := ⟨h_callBx hts hw (hv.1 _ (by simp)) (hv.1 _ (by simp)) hv.2 hR hlv, hts _ (hv.1 _ (by simp)), hts _ (hv.1 _ (by simp))⟩
  have hrv : ∃ cellB : Cell, H[G.2.2 a]? = some cellB ∧ cellB.vm.isStatics = false ∧ s.vm.findClass y.cls = some cellB.cls := by
    have := va_recv hK hP hc.1 ((h_ws_at G μ ha).trans (by rw [h_cell_o G μ hk]))
    rw [hyc]; exact this
  have hp := h_prex (as := .ref a :: As) hP hK hnw hxs hxz hS hAd
  have hrun := vx_runV (As := h_trs G As) (rest := h_trs G st) (g := F0 m pc ls (h_trs G (As.reverse ++ .ref a :: st))) (locs := locs) (below := below) (e := e) (cells := k) (slots := n) (R := Rm) (Ts := h_tb) (meth := meth) ⟨hx, hb, rfl, hown, hts⟩ hM hcb ⟨hp.1, hrv, fun U hU hW => by have := hp.2 U hU hW; simpa [h_trs, h_tr] using this⟩ rfl (by simp [h_trs, hn0]) hl.1 (by simp [h_trs, h_tr]) (by rw [h_trs_cat]; simpa using hst) hd hcs
  cases o <;> exact hrun
theorem r_xcallS (hg : HGood cx own b nL lv rt) (hA : h_own cx) (hT : HThr cx mc) {y : MethodName} {b' : ByteArray} {nL' lv' mc' idx n0 : Nat} {rt' : Option FieldType} {enc : R → Option Value} {enc' : R' → Option Value} {As : List Value} {F' : Option ((R' ⊕ Nat) × HMem)} {K : R' → HMem → Option ((R ⊕ Nat) × HMem)}
    (hsp : HSpecX y b' nL' rt' lv' mc' enc' As μ F') (hv : HStat y b' nL' rt' n0) (hw : Cond.methodLink own idx y ∈ h_tb) (hd : decode b pc = .ok (.invokestatic idx, 3)) (hn0 : As.length = n0) (hlv : lv' + 1 ≤ lv ∧ nL' ≤ 45) (hkn : k + mc' ≤ mc ∧ n = 6 * k) (hst : (st.map fun v => v.category).sum ≤ 8) {st0 : List Value} (hst0 : st0 = As.reverse ++ st)
    (kk : ∀ r μ1, F' = some (.inl r, μ1) → HX cx (HQx cx mc enc) (K r μ1) (k + mc') (n + 6 * mc') (pc + 3) l ((enc' r).toList ++ st) μ1) : HX cx (HQx cx mc enc) (h_bdx F' K) k n pc l st0 μ := by
  subst hst0
  refine r_xcall hg hA hT hkn ?_ kk
  obtain ⟨p, lc, e, Rm, s, m, args, below, meth, c, G, A'⟩ := cx
  intro o μ1 hF' H locs ls hP hS hl hcs
  obtain ⟨hx, hb, hml, hown, hts, hK, hi, hAd, hR, -, -, hnw⟩ := id hg
  obtain ⟨htr, hxs, hxz, hex, hmc, hms⟩ := id hT
  have hM := hsp o μ1 hF' lc G htr hi
  have hcb : CallB Rm s args own idx y b' nL' rt' (.code y b' nL' rt' :: h_tb) (h_roomx lv' mc') mc' (6 * mc') n0 ∧ (Cond.static y).before args s = true := ⟨h_callBx hts hw (hv.1 _ (by simp)) (hv.1 _ (by simp)) hv.2 hR hlv, hts _ (hv.1 _ (by simp))⟩
  have hp := h_prex (as := As) hP hK hnw hxs hxz hS hAd
  have hrun := vx_runS (As := h_trs G As) (rest := h_trs G st) (g := F0 m pc ls (h_trs G (As.reverse ++ st))) (locs := locs) (below := below) (e := e) (cells := k) (slots := n) (R := Rm) (Ts := h_tb) (meth := meth) ⟨hx, hb, rfl, hown, hts⟩ hM hcb ⟨hp.1, hp.2⟩ rfl (by simp [h_trs, hn0]) hl.1 (by simp [h_trs]) (by rw [h_trs_cat]; simpa using hst) hd hcs
  cases o <;> exact hrun
/-- returns -/
theorem h_retx (hA : h_own cx) {enc : R → Option Value} {r0 : R} (hkn : k ≤ mc ∧ n = 6 * k)
    (hret : match cx with
      | (p, lc, e, Rm, s, m, args, below, meth, c, G, A) => ∀ (H : Heap) (locs : List Loc) (ls : Array Slot), va_P G.1 h_cl (h_ws G μ) H → va_S A s.heap H locs → A = h_A G → W p lc e Rm s m args below meth c H locs mc (6 * mc) (MQ below (HQc G (enc r0) μ) args s mc (6 * mc) (h_A G)) (F0 m pc ls (h_trs G st))) : HX cx (HQx cx mc enc) (some (.inl r0, μ)) k n pc l st μ := by
  obtain ⟨p, lc, e, Rm, s, m, args, below, meth, c, G, A'⟩ := cx
  intro r μ' hF H locs ls hP hS hl hC
  cases hF
  exact vx_ret (W.widen (k := mc) (n := 6 * mc) (by omega) (by omega) (hret H locs ls hP hS hA))
theorem r_xiret (hg : HGood cx own b nL lv rt) (hA : h_own cx) {enc : R → Option Value} {r0 : R} (hkn : k ≤ mc ∧ n = 6 * k) {x : Int32} (hr : rt = some .int) (hd : decode b pc = .ok (.ireturn, 1)) (he : enc r0 = some (.int x)) : HX cx (HQx cx mc enc) (some (.inl r0, μ)) k n pc l [.int x] μ := by
  refine h_retx hA hkn ?_
  obtain ⟨p, lc, e, Rm, s, m, args, below, meth, c, G, A'⟩ := cx
  intro H locs ls hP hS hA'
  subst hA'
  obtain ⟨hx, hb, hml, hown, hts, hK, hi, hAd, hR, hlk, hrt, hnw⟩ := id hg
  exact W.iret hx hb (hrt.trans hr) (fun t ht hw => ⟨by rw [he]; rfl, by rw [ht]; exact hP, hS.F ht⟩) hS.2.2 hd hlk
theorem r_xzretB (hg : HGood cx own b nL lv rt) (hA : h_own cx) {enc : Int32 → Option Value} (hkn : k ≤ mc ∧ n = 6 * k) {x : Int32} (hr : rt = some .boolean) (hd : decode b pc = .ok (.ireturn, 1)) (he : enc x = some (.int x)) : HX cx (HQx cx mc enc) (if x &&& 1 = x then some (.inl x, μ) else none) k n pc l [.int x] μ := by
  by_cases hz : x &&& 1 = x
  · rw [if_pos hz]
    refine h_retx hA hkn ?_
    obtain ⟨p, lc, e, Rm, s, m, args, below, meth, c, G, A'⟩ := cx
    intro H locs ls hP hS hA'
    subst hA'
    obtain ⟨hx, hb, hml, hown, hts, hK, hi, hAd, hR, hlk, hrt, hnw⟩ := id hg
    exact W.zret (ty := .boolean) hx hb (hrt.trans hr) (by rw [narrow]; rw [hz]) (fun t ht hw => ⟨by rw [he]; rfl, by rw [ht]; exact hP, hS.F ht⟩) hS.2.2 hd hlk
  · rw [if_neg hz]
    exact HX.none
theorem r_xlret (hg : HGood cx own b nL lv rt) (hA : h_own cx) {enc : R → Option Value} {r0 : R} (hkn : k ≤ mc ∧ n = 6 * k) {x : Int64} (hr : rt = some .long) (hd : decode b pc = .ok (.lreturn, 1)) (he : enc r0 = some (.long x)) : HX cx (HQx cx mc enc) (some (.inl r0, μ)) k n pc l [.long x] μ := by
  refine h_retx hA hkn ?_
  obtain ⟨p, lc, e, Rm, s, m, args, below, meth, c, G, A'⟩ := cx
  intro H locs ls hP hS hA'
  subst hA'
  obtain ⟨hx, hb, hml, hown, hts, hK, hi, hAd, hR, hlk, hrt, hnw⟩ := id hg
  exact W.lret hx hb (hrt.trans hr) (fun t ht hw => ⟨by rw [he]; rfl, by rw [ht]; exact hP, hS.F ht⟩) hS.2.2 hd hlk
theorem r_xvret (hg : HGood cx own b nL lv rt) (hA : h_own cx) {enc : R → Option Value} {r0 : R} (hkn : k ≤ mc ∧ n = 6 * k) (hr : rt = none) (hd : decode b pc = .ok (.return_, 1)) (he : enc r0 = none) : HX cx (HQx cx mc enc) (some (.inl r0, μ)) k n pc l [] μ := by
  refine h_retx hA hkn ?_
  obtain ⟨p, lc, e, Rm, s, m, args, below, meth, c, G, A'⟩ := cx
  intro H locs ls hP hS hA'
  subst hA'
  obtain ⟨hx, hb, hml, hown, hts, hK, hi, hAd, hR, hlk, hrt, hnw⟩ := id hg
  exact W.vret hx hb (hrt.trans hr) (fun t ht hw => ⟨by rw [he]; rfl, by rw [ht]; exact hP, hS.F ht⟩) hS.2.2 hd hlk
theorem r_xaret (hg : HGood cx own b nL lv rt) (hA : h_own cx) {enc : R → Option Value} {r0 : R} (hkn : k ≤ mc ∧ n = 6 * k) {x : Nat} {C : String} (hr : rt = some (.object C)) (hd : decode b pc = .ok (.areturn, 1)) (he : enc r0 = some (.ref x)) : HX cx (HQx cx mc enc) (some (.inl r0, μ)) k n pc l [.ref x] μ := by
  refine h_retx hA hkn ?_
  obtain ⟨p, lc, e, Rm, s, m, args, below, meth, c, G, A'⟩ := cx
  intro H locs ls hP hS hA'
  subst hA'
  obtain ⟨hx, hb, hml, hown, hts, hK, hi, hAd, hR, hlk, hrt, hnw⟩ := id hg
  exact W.aret hx hb (hrt.trans hr) (Or.inl ⟨_, rfl⟩) (Or.inr ⟨_, rfl⟩) (fun t ht hw => ⟨by rw [he]; rfl, by rw [ht]; exact hP, hS.F ht⟩) hS.2.2 hd hlk
/-- the words of throwing -/
def h_names : List String := ["java/lang/RuntimeException", "java/lang/Exception"]
def h_xB : List Cond := h_decls.map .declares ++ h_casts.map (fun x => .castable x x)
theorem h_xB_ok {s : State} {args : Array Value} (h : h_xs s) : ∀ w ∈ h_xB, w.before args s = true := by
  intro w hw
  rcases List.mem_append.mp hw with h1 | h1
  · obtain ⟨x, hx, rfl⟩ := List.mem_map.mp h1
    exact va_Nw.use rfl (h.1 x hx)
  · obtain ⟨x, hx, rfl⟩ := List.mem_map.mp h1
    exact va_Nw.use rfl (h.2.1 x hx)
/-- what a throw's site needs: decided once a class -/
def h_site (ik ic : Nat) (cls : String) : Prop := Cond.classLink "HomBench" ik cls ∈ h_tb ∧ Cond.initialized cls ∈ h_tb ∧ Bundle.fit cls = true ∧ (∀ w ∈ (vx_atS "HomBench" ic cls h_names).filter goodWord, w ∈ h_tb) ∧ (∀ w ∈ (vx_atS "HomBench" ic cls h_names).filter (fun w => !goodWord w), w ∈ h_xB) ∧ ∀ w ∈ Cond.classLink "HomBench" ik cls :: Cond.initialized cls :: vx_atS "HomBench" ic cls h_names, vx_ot w = true
theorem h_site_of {ik ic : Nat} {cls : String} (i1 i2 : Nat) (h1 : lw_tbl[i1]? = some (Cond.classLink "HomBench" ik cls)) (h2 : lw_tbl[i2]? = some (Cond.initialized cls)) (h3 : Bundle.fit cls = true) (h4 : ((vx_atS "HomBench" ic cls h_names).filter goodWord).all (fun w => decide (w ∈ lw_tbl)) = true) (h5 : ((vx_atS "HomBench" ic cls h_names).filter (fun w => !goodWord w)).all (fun w => decide (w ∈ h_xB)) = true) (h6 : (Cond.classLink "HomBench" ik cls :: Cond.initialized cls :: vx_atS "HomBench" ic cls h_names).all vx_ot = true) : h_site ik ic cls := by
  refine ⟨h_inI i1 h1 rfl, h_inI i2 h2 rfl, h3, fun w hw => ?_, fun w hw => ?_, fun w hw => List.all_eq_true.mp h6 w hw⟩
  · exact h_in (of_decide_eq_true (List.all_eq_true.mp h4 w hw)) (List.mem_filter.mp hw).2
  · exact of_decide_eq_true (List.all_eq_true.mp h5 w hw)
theorem h_fits : ∀ n ∈ h_names, Bundle.fit n = true := by decide +kernel
theorem r_throw (hg : HGood cx "HomBench" b nL lv rt) (hA : h_own cx) (hT : HThr cx mc) {enc : R → Option Value} {ik is ic e0 : Nat} {text : String} (hs : h_site ik ic (h_ex e0)) (htx : (is, text) ∈ h_strs) (d0 : decode b pc = .ok (.new ik, 3)) (d3 : decode b (pc + 3) = .ok (.dup, 1)) (d4 : decode b (pc + 4) = .ok (.ldc is, 2)) (d6 : decode b (pc + 6) = .ok (.invokespecial ic, 3)) (d9 : decode b (pc + 9) = .ok (.athrow, 1)) (hlv : 6 ≤ lv) (hst : (st.map fun v => v.category).sum ≤ 8) (hkn : k + 1 ≤ mc ∧ n = 6 * k) : HX cx (HQx cx mc enc) (some (.inr e0, μ)) k n pc l st μ := by
  obtain ⟨p, lc, e, Rm, s, m, args, below, meth, c, G, A'⟩ := cx
  have hA' : A' = h_A G := hA
  intro r μ' hF H locs ls hP hS hl hC
  cases hF
  obtain ⟨hx, hb, hml, hown, hts, hK, hi, hAd, hR, hlk, hrt, hnw⟩ := id hg
  obtain ⟨htr, hxs, hxz, hex, hmc, hms⟩ := id hT
  obtain ⟨sa, hsa⟩ := hxs.2.2.2 _ htx
  obtain ⟨s1, s2, s3, s4, s5, s6⟩ := hs
  have hstc : ((h_trs G st).map fun v => v.category).sum ≤ 8 := by rw [h_trs_cat]; exact hst
  have hlen : h_names.length = 2 := rfl
  exact vx_throwS hx hb htr hown s3 h_fits (hts _ s1) (hts _ s2) hsa (vx_hat (fun w hw => hts w (s4 w hw)) s5 (h_xB_ok hxs)) s6 hxz.1 hxz.2 hS hl.1 d0 d3 d4 d6 d9 (fun x hx => absurd (hex x hx) id) (by rw [hlen]; omega) (by rw [hlen]; omega) (by omega) (by omega) hlk (fun t hv hz hq => ⟨rfl, hP.kept (fun k q hk => hq q.1 (hP k q hk).lt), by rw [← hA']; exact ⟨Nat.le_trans hS.1 hz, fun q h1 h2 => (hq q (Nat.lt_of_lt_of_le h1 hS.1)).trans (hS.2.1 q h1 h2)⟩⟩) (fun z hz => by rw [← hA']; exact hS.2.2 z hz) (by omega) (by omega)
theorem r_throwW (hg : HGood cx "HomBench" b nL lv rt) (hA : h_own cx) (hT : HThr cx mc) {enc : R → Option Value} {ik is ic e0 : Nat} {text : String} (hs : h_site ik ic (h_ex e0)) (htx : (is, text) ∈ h_strs) (d0 : decode b pc = .ok (.new ik, 3)) (d3 : decode b (pc + 3) = .ok (.dup, 1)) (d4 : decode b (pc + 4) = .ok (.ldc_w is, 3)) (d7 : decode b (pc + 7) = .ok (.invokespecial ic, 3)) (d10 : decode b (pc + 10) = .ok (.athrow, 1)) (hlv : 6 ≤ lv) (hst : (st.map fun v => v.category).sum ≤ 8) (hkn : k + 1 ≤ mc ∧ n = 6 * k) : HX cx (HQx cx mc enc) (some (.inr e0, μ)) k n pc l st μ := by
  obtain ⟨p, lc, e, Rm, s, m, args, below, meth, c, G, A'⟩ := cx
  have hA' : A' = h_A G := hA
  intro r μ' hF H locs ls hP hS hl hC
  cases hF
  obtain ⟨hx, hb, hml, hown, hts, hK, hi, hAd, hR, hlk, hrt, hnw⟩ := id hg
  obtain ⟨htr, hxs, hxz, hex, hmc, hms⟩ := id hT
  obtain ⟨sa, hsa⟩ := hxs.2.2.2 _ htx
  obtain ⟨s1, s2, s3, s4, s5, s6⟩ := hs
  have hstc : ((h_trs G st).map fun v => v.category).sum ≤ 8 := by rw [h_trs_cat]; exact hst
  have hlen : h_names.length = 2 := rfl
  exact vx_throwSW hx hb htr hown s3 h_fits (hts _ s1) (hts _ s2) hsa (vx_hat (fun w hw => hts w (s4 w hw)) s5 (h_xB_ok hxs)) s6 hxz.1 hxz.2 hS hl.1 d0 d3 d4 d7 d10 (fun x hx => absurd (hex x hx) id) (by rw [hlen]; omega) (by rw [hlen]; omega) (by omega) (by omega) hlk (fun t hv hz hq => ⟨rfl, hP.kept (fun k q hk => hq q.1 (hP k q hk).lt), by rw [← hA']; exact ⟨Nat.le_trans hS.1 hz, fun q h1 h2 => (hq q (Nat.lt_of_lt_of_le h1 hS.1)).trans (hS.2.1 q h1 h2)⟩⟩) (fun z hz => by rw [← hA']; exact hS.2.2 z hz) (by omega) (by omega)
end HRX
theorem HX.widen {R : Type} {cx : HCx} {Qf : R → HMem → State → Prop} {F : Option (R × HMem)} {k n k' n' pc : Nat} {l : List (Nat × Value)} {st : List Value} {μ : HMem} (h1 : k ≤ k') (h2 : n ≤ n') (hC : match cx with
      | (_, _, _, Rm, _) => k' ≤ Rm.cells ∧ n' ≤ Rm.slots) (kk : HX cx Qf F k' n' pc l st μ) : HX cx Qf F k n pc l st μ := by
  obtain ⟨p, lc, e, Rm, s, m, args, below, meth, c, G, A'⟩ := cx
  intro r μ' hF H locs ls hP hS hl _
  exact W.widen h1 h2 (kk r μ' hF H locs ls hP hS hl hC)
/-! the law's methods that call and catch -/
def HSpecW {R : Type} (y : MethodName) (b : ByteArray) (nL : Nat) (rt : Option FieldType) (hh : List (Nat × Nat × Nat × Nat)) (lev mc : Nat) (enc : R → Option Value) (as : List Value) (μ : HMem) (F : Option (R × HMem)) : Prop :=
  ∀ r μ', F = some (r, μ') → ∀ (l : Launch) (G : HGeo), l.stackTraces = false → h_inj G → Met l y (.codeWith y b nL rt hh :: h_tb) (h_roomx lev mc) (HPx G as μ) (HQc G (enc r) μ') mc (6 * mc) (h_A G)
def HQw {R : Type} (cx : HCx) (mc : Nat) (enc : R → Option Value) (r : R) (μ' : HMem) : State → Prop := match cx with
  | (_, _, _, _, s, _, args, below, _, _, G, _) => MQ below (HQc G (enc r) μ') args s mc (6 * mc) (h_A G)
def HTry (cx : HCx) (hh : List (Nat × Nat × Nat × Nat)) (mc : Nat) : Prop := match cx with
  | (_, l, _, R, s, _, _, _, _, c, _, A) => l.stackTraces = false ∧ h_xs s ∧ h_xz A s s.heap ∧ c.exceptionTable.toList = tableOf hh ∧ mc ≤ R.cells ∧ 6 * mc ≤ R.slots
theorem h_ofWH {l : Launch} {y : MethodName} {ws ws' : List Cond} {rm : Room} {Pc : Array Value → State → Prop} {Qc : Array Value → State → Outcome → State → Prop} {mc ms : Nat} {free : Addr → Prop} {cc : ByteArray} {maxL : Nat} {ret : Option FieldType} {hh : List (Nat × Nat × Nat × Nat)}
    (hy : plainName y.cls = true) (hw : ws = Cond.codeWith y cc maxL ret hh :: ws')
    (body : ∀ p e s m args below meth c s₁, BodyLoose p l y (headSpec ws rm) cc maxL ret e s m args below meth c s₁ → c.maxLocals = maxL → Pc args s →
      W p l e (headSpec ws rm).room s m args below meth c s.heap [] 0 0 (MQ below Qc args s mc ms free) (entryFrame m args maxL)) : Met l y ws rm Pc Qc mc ms free := by
  refine MetFree.of_bodyS (code := cc) (maxLocals := maxL) (ret := ret) hy ?_ ?_
  · intro args s m h hn
    obtain ⟨m9, meth, c, hn9, h1, h2, h3, h4, -, h5, h6, -⟩ := Cond.codeWith_spec (atoms_spec (ws := ws) h _ (by rw [hw]; exact List.mem_cons_self))
    cases hn.symm.trans hn9
    exact ⟨meth, c, h1, h2, h3, h4, h5, h6⟩
  · intro p e s m args below meth c s₁ B hml hP _
    have hh0 : s₁.heap = s.heap := by rw [B.state]; rfl
    obtain ⟨t, a1, o, b1, b2, b3⟩ := body p e s m args below meth c s₁ B hml hP s₁ hh0 (Stand.of_body B)
    exact ⟨t, o, a1, b1, b2, ⟨b3.1, b3.2⟩⟩
theorem HSpecW.of {R : Type} {y : MethodName} {b : ByteArray} {nL : Nat} {rt : Option FieldType} {hh : List (Nat × Nat × Nat × Nat)} {lv mc : Nat} {enc : R → Option Value} {as : List Value} {μ : HMem} {F : Option (R × HMem)} (hy : plainName y.cls = true) (hn : (lg_sl as).length ≤ nL)
    (body : ∀ cx : HCx, h_own cx → HGood cx y.cls b nL lv rt → HTry cx hh mc → HX cx (HQw cx mc enc) F 0 0 0 (lv_args 0 as) [] μ) : HSpecW y b nL rt hh lv mc enc as μ F := by
  intro r μ' hF l G htr hi
  refine h_ofWH (cc := b) (maxL := nL) (ret := rt) (hh := hh) hy rfl ?_
  intro p e s m args below meth c s₁ B hml hv
  obtain ⟨rfl, hP, hK, hnw, hxs, hxz⟩ := hv
  have hts := atoms_spec (ws := Cond.codeWith y b nL rt hh :: h_tb) B.pre
  have hex : c.exceptionTable.toList = tableOf hh := vx_table (x := y) B (hts (.codeWith y b nL rt hh) List.mem_cons_self)
  have hg : HGood (p, l, e, h_roomx lv mc, s, m, (h_trs G as).toArray, below, meth, c, G, h_A G) y.cls b nL lv rt := ⟨B.exec, B.bytes, hml, findClass_of_methodNamed B.named, fun w hw => hts w (List.mem_cons_of_mem _ hw), hK, hi, fun d hd => ⟨d, hd, rfl⟩, ⟨Nat.le_refl _, Nat.le_refl _⟩, B.notSynchronized, B.returns, hnw⟩
  have hx := body (p, l, e, h_roomx lv mc, s, m, (h_trs G as).toArray, below, meth, c, G, h_A G) rfl hg ⟨htr, hxs, hxz, hex, Nat.le_refl _, Nat.le_refl _⟩ r μ' hF s.heap []
  have hsl : ∀ as : List Value, (lg_sl (h_trs G as)).length = (lg_sl as).length := by
    intro as
    induction as with
    | nil => rfl
    | cons v vs ih =>
      simp only [h_trs, List.map_cons] at ih ⊢
      have e1 : ∀ v vs, (lg_sl (v :: vs)).length = (if v.category = 2 then 2 else 1) + (lg_sl vs).length := by
        intro v vs
        simp only [lg_sl, List.flatMap_cons, List.length_append]
        split <;> simp
      rw [e1, e1, ih, h_tr_cat]
  have hl := lv_entry (h_trs G as) (n := nL) (by rw [hsl]; exact hn)
  rw [lg_entry_eq]
  refine hx _ hP va_S.rf ?_ ⟨Nat.zero_le _, Nat.zero_le _⟩
  rw [← h_args]
  rw [hml]
  exact hl
/-- a handler that answers v: astore; iconst; ireturn -/
def HHand (b : ByteArray) (nL hp : Nat) (v : Int32) : Prop := (∃ (j : Fin 4) (i : Int), decode b hp = .ok (.astore_n j, 1) ∧ (j : Nat) < nL ∧ decode b (hp + 1) = .ok (.iconst i, 1) ∧ Int32.ofInt i = v ∧ decode b (hp + 1 + 1) = .ok (.ireturn, 1)) ∨ (∃ (j : Nat) (i : Int), decode b hp = .ok (.astore j, 2) ∧ j < nL ∧ decode b (hp + 2) = .ok (.iconst i, 1) ∧ Int32.ofInt i = v ∧ decode b (hp + 2 + 1) = .ok (.ireturn, 1))
/-- what is thrown of kind e at pc is caught by a handler that answers v -/
def HCatch (own : String) (b : ByteArray) (nL : Nat) (hh : List (Nat × Nat × Nat × Nat)) (pc e : Nat) (v : Int32) : Prop := ∃ (pre : List ExceptionTableEntry) (x : ExceptionTableEntry) (suf : List ExceptionTableEntry), tableOf hh = pre ++ x :: suf ∧ (∀ z ∈ pre, z.catchType ≠ 0 ∧ ∃ nm : String, Cond.classLink own z.catchType nm ∈ h_tb ∧ (h_ex e, nm) ∈ h_ncs) ∧ covers x pc = true ∧ x.catchType ≠ 0 ∧ Cond.classLink own x.catchType (h_ex e) ∈ h_tb ∧ h_ex e ∈ h_casts ∧ HHand b nL x.handlerPc v
section HRW
variable {R R' : Type} {cx : HCx} {k n pc mc : Nat} {l : List (Nat × Value)} {st : List Value} {μ : HMem} {own : String} {b : ByteArray} {nL lv : Nat} {rt : Option FieldType} {hh : List (Nat × Nat × Nat × Nat)}
theorem h_hand {p : Program} {lc : Launch} {e : Env} {Rm : Room} {s : State} {m : MethodId} {args : Array Value} {below : List Frame} {meth : Method} {c : Code} {H : Heap} {locs : List Loc} {cells slots : Nat} {ls : Array Slot} {q : Nat} {v : Int32} {hp : Nat} {l' : List (Nat × Value)} {Qc : Array Value → State → Outcome → State → Prop} {free : Addr → Prop} (hx : p.tables.exec = Jvm.exec) (hb : c.code = b) (hr : meth.sig.returnType = some .int) (hlk : meth.locks = false) (hl : lv_has ls nL l') (hh : HHand b nL hp v) (hq : ∀ t : State, t.heap = H → s.WarmedH t.vm → Qc args s (.returned (some (.int v))) t) (hf : ∀ z ∈ locs, free z.base) : W p lc e Rm s m args below meth c H locs cells slots (MQ below Qc args s cells slots free) (F0 m hp ls [.ref q]) := by
  rcases hh with ⟨j, i, d1, hj, d2, hv, d3⟩ | ⟨j, i, d1, hj, d2, hv, d3⟩
  · refine lv_astore_n hx hb d1 rfl hl hj rfl (fun ls' hl' => ?_)
    refine lv_iconst hx hb d2 hv ?_
    exact W.iret hx hb hr hq hf d3 hlk
  · refine lv_astore hx hb d1 hl hj rfl (fun ls' hl' => ?_)
    refine lv_iconst hx hb d2 hv ?_
    exact W.iret hx hb hr hq hf d3 hlk
theorem r_tcallV (hg : HGood cx own b nL lv (some .int)) (hA : h_own cx) (hT : HTry cx hh mc) {y : MethodName} {b' : ByteArray} {nL' lv' mc' ci N idx a n0 : Nat} {rt' : Option FieldType} {enc' : R' → Option Value} {As : List Value} {F' : Option ((R' ⊕ Nat) × HMem)} {K : R' → HMem → Option (Int32 × HMem)} {C : String} {T : u_T} {L : List (Nat × Int32)}
    (hsp : HSpecX y b' nL' rt' lv' mc' enc' (.ref a :: As) μ F') (hv : HVirt y b' nL' rt' n0) (hc : h_cls ci C T N) (hyc : y.cls = C) (ha : a < h_N) (hk : h_kd a = 10 + ci) (hw : Cond.methodLink own idx y ∈ h_tb) (hd : decode b pc = .ok (.invokevirtual idx, 3)) (hn0 : As.length = n0) (hlv : lv' + 1 ≤ lv ∧ nL' ≤ 45) (hkn : k + mc' = mc ∧ n = 6 * k) (hst : (st.map fun v => v.category).sum ≤ 8) {st0 : List Value} (hst0 : st0 = As.reverse ++ .ref a :: st)
    (hL : ∀ q ∈ L, HCatch own b nL hh pc q.1 q.2)
    (kk : ∀ r μ1, F' = some (.inl r, μ1) → HX cx (HQw cx mc h_eI) (K r μ1) (k + mc') (n + 6 * mc') (pc + 3) l ((enc' r).toList ++ st) μ1) : HX cx (HQw cx mc h_eI) (h_bdt F' (fun e => L.lookup e) K) k n pc l st0 μ := by
  subst hst0
  obtain ⟨p, lc, e, Rm, s, m, args, below, meth, c, G, A'⟩ := cx
  have hA' : A' = h_A G := hA
  intro r μ' hF H locs ls hP hS hl hC
  obtain ⟨hx, hb, hml, hown, hts, hK, hi, hAd, hR, hlk, hrt, hnw⟩ := id hg
  obtain ⟨htr, hxs, hxz, hex, hmc, hms⟩ := id hT
  have hcs : k + mc' ≤ Rm.cells ∧ n + 6 * mc' ≤ Rm.slots := ⟨by omega, by omega⟩
  unfold h_bdt at hF
  cases hF' : F' with
  | none => rw [hF'] at hF; cases hF
  | some o =>
    obtain ⟨o1, μ1⟩ := o
    rw [hF'] at hF
    have hM := hsp o1 μ1 hF' lc G htr hi
    have hcb : CallW Rm s args own y.cls idx y b' nL' rt' (.code y b' nL' rt' :: h_tb) (h_roomx lv' mc') mc' (6 * mc') n0 := ⟨h_callBx hts hw (hv.1 _ (by simp)) (hv.1 _ (by simp)) hv.2 hR hlv, hts _ (hv.1 _ (by simp)), hts _ (hv.1 _ (by simp))⟩
    have hrv : ∃ cellB : Cell, H[G.2.2 a]? = some cellB ∧ cellB.vm.isStatics = false ∧ s.vm.findClass y.cls = some cellB.cls := by
      have := va_recv hK hP hc.1 ((h_ws_at G μ ha).trans (by rw [h_cell_o G μ hk]))
      rw [hyc]; exact this
    have hp := h_prex (as := .ref a :: As) hP hK hnw hxs hxz hS hAd
    have hrun := vx_runV (As := h_trs G As) (rest := h_trs G st) (g := F0 m pc ls (h_trs G (As.reverse ++ .ref a :: st))) (locs := locs) (below := below) (e := e) (cells := k) (slots := n) (R := Rm) (Ts := h_tb) (meth := meth) ⟨hx, hb, rfl, hown, hts⟩ hM hcb ⟨hp.1, hrv, fun U hU hW => by have := hp.2 U hU hW; simpa [h_trs, h_tr] using this⟩ rfl (by simp [h_trs, hn0]) hl.1 (by simp [h_trs, h_tr]) (by rw [h_trs_cat]; simpa using hst) hd hcs
    have hAA : ∀ q, h_A G q → A' q := fun q hq => by rw [hA']; exact hq
    cases o1 with
    | inl r1 =>
      refine h_callN (v := (enc' r1).map (h_tr G)) (P := fun H => va_P G.1 h_cl (h_ws G μ1) H) (A1 := h_A G) hrun (fun _ _ _ h => h) hS hAA hAA (fun H1 locs1 hP1 hS1 => ?_)
      have h9 := kk r1 μ1 hF' r μ' hF H1 locs1 ls hP1 hS1 hl hcs
      have e9 : ((enc' r1).map (h_tr G)).toList ++ h_trs G st = h_trs G ((enc' r1).toList ++ st) := by cases enc' r1 <;> rfl
      rw [e9]
      exact h9
    | inr k1 =>
      have hF2 : (List.lookup k1 L).map (fun r => (r, μ1)) = some (r, μ') := hF
      cases hL1 : List.lookup k1 L with
      | none => rw [hL1] at hF2; cases hF2
      | some v =>
        rw [hL1] at hF2
        cases hF2
        have hmem : (k1, r) ∈ L := by
          have : ∀ L : List (Nat × Int32), List.lookup k1 L = some r → (k1, r) ∈ L := by
            intro L
            induction L with
            | nil => intro h; cases h
            | cons q L ih =>
              intro h
              simp only [List.lookup] at h
              split at h
              · rename_i hq
                cases h
                have : k1 = q.1 := by simpa using hq
                rw [this]; exact List.mem_cons_self
              · exact List.mem_cons_of_mem _ (ih h)
          exact this L hL1
        obtain ⟨pre, x, suf, hsp1, hpre, hcov, hct, hcl1, hcas, hhd⟩ := hL _ hmem
        refine h_callT (E0 := h_ex k1) (P := fun H => va_P G.1 h_cl (h_ws G μ') H) (A1 := h_A G) hrun (fun _ _ _ h => h) hS hAA hAA (fun H1 locs1 q ce hP1 hS1 hce hcv hcl => ?_)
        refine vx_catch hown pre x suf (hex.trans hsp1) (fun z hz => Or.inr ?_) hcov hct (hts _ hcl1) (va_Nw.use rfl (hxs.2.1 _ hcas)) hce hcv hcl ?_
        · obtain ⟨h1, nm, h2, h3⟩ := hpre z hz
          exact ⟨h1, nm, hts _ h2, hxs.2.2.1 _ h3⟩
        · obtain ⟨e1, e2⟩ := hkn
          have e3 : n + 6 * mc' = 6 * mc := by omega
          rw [e1, e3]
          exact h_hand hx hb hrt hlk (hml ▸ hl) hhd (fun t ht hw => ⟨rfl, by rw [ht]; exact hP1, by rw [← hA']; exact hS1.F ht⟩) (fun z hz => by rw [← hA']; exact hS1.2.2 z hz)
theorem r_wiret (hg : HGood cx own b nL lv rt) (hA : h_own cx) {enc : R → Option Value} {r0 : R} (hkn : k ≤ mc ∧ n = 6 * k) {x : Int32} (hr : rt = some .int) (hd : decode b pc = .ok (.ireturn, 1)) (he : enc r0 = some (.int x)) : HX cx (HQw cx mc enc) (some (r0, μ)) k n pc l [.int x] μ := by
  obtain ⟨p, lc, e, Rm, s, m, args, below, meth, c, G, A'⟩ := cx
  have hA' : A' = h_A G := hA
  subst hA'
  intro r μ' hF H locs ls hP hS hl hC
  cases hF
  obtain ⟨hx, hb, hml, hown, hts, hK, hi, hAd, hR, hlk, hrt, hnw⟩ := id hg
  exact W.widen (k := mc) (n := 6 * mc) (by omega) (by omega) (W.iret hx hb (hrt.trans hr) (fun t ht hw => ⟨by rw [he]; rfl, by rw [ht]; exact hP, hS.F ht⟩) hS.2.2 hd hlk)
end HRW
def HStatW (y : MethodName) (b : ByteArray) (nL : Nat) (rt : Option FieldType) (hh : List (Nat × Nat × Nat × Nat)) (n : Nat) : Prop := (∀ w ∈ ([.static y, .initialized y.cls, .codeWith y b nL rt hh] : List Cond), w ∈ h_tb) ∧ y.cls ≠ "java/lang/invoke/MethodHandle" ∧ y.cls ≠ "java/lang/invoke/VarHandle" ∧ (parseMethodDescriptor y.desc).map (fun d => d.parameters.length) = some n
theorem h_site1 : h_site 303 307 (h_ex 1) := h_site_of 505 114 (by decide +kernel) (by decide +kernel) (by decide +kernel) (by decide +kernel) (by decide +kernel) (by decide +kernel)
theorem h_site2 : h_site 186 190 (h_ex 2) := h_site_of 575 115 (by decide +kernel) (by decide +kernel) (by decide +kernel) (by decide +kernel) (by decide +kernel) (by decide +kernel)
theorem h_site3 : h_site 129 133 (h_ex 3) := h_site_of 680 119 (by decide +kernel) (by decide +kernel) (by decide +kernel) (by decide +kernel) (by decide +kernel) (by decide +kernel)
