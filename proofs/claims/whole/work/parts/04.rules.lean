/-! THE WALK OVER A WORLD: a judgement HX, which follows a pure program F; a row an instruction. -/
abbrev HCx : Type := Program × Launch × Env × Room × State × MethodId × Array Value × List Frame × Method × Code × HGeo × (Nat → Prop)
def HGood (cx : HCx) (own : String) (b : ByteArray) (nL lv : Nat) (rt : Option FieldType) : Prop := match cx with
  | (p, _, _, R, s, m, args, _, meth, c, G, A) => p.tables.exec = Jvm.exec ∧ c.code = b ∧ c.maxLocals = nL ∧ s.vm.findClass own = some m.cls ∧ (∀ w ∈ h_tb, w.before args s = true) ∧ va_K G.1 h_cl (h_tys G) s ∧ h_inj G ∧ (∀ d, d < h_N → A (G.2.2 d)) ∧ (lv ≤ R.frames ∧ 64 * lv ≤ R.locals) ∧ meth.locks = false ∧ meth.sig.returnType = rt ∧ h_nw s
def HX {R : Type} (cx : HCx) (Qf : R → HMem → State → Prop) (F : Option (R × HMem)) (k n pc : Nat) (l : List (Nat × Value)) (st : List Value) (μ : HMem) : Prop := match cx with
  | (p, lc, e, Rm, s, m, args, below, meth, c, G, A) => ∀ r μ', F = some (r, μ') → ∀ (H : Heap) (locs : List Loc) (ls : Array Slot), va_P G.1 h_cl (h_ws G μ) H → va_S A s.heap H locs → lv_has ls c.maxLocals (h_trl G l) → k ≤ Rm.cells ∧ n ≤ Rm.slots →
      W p lc e Rm s m args below meth c H locs k n (Qf r μ') (F0 m pc ls (h_trs G st))
section HR
variable {R : Type} {cx : HCx} {Qf : R → HMem → State → Prop} {F A B : Option (R × HMem)} {k n pc : Nat} {l : List (Nat × Value)} {st : List Value} {μ : HMem} {own : String} {b : ByteArray} {nL lv : Nat} {rt : Option FieldType}
theorem HX.eq {F' : Option (R × HMem)} (h : F = F') (kk : HX cx Qf F' k n pc l st μ) : HX cx Qf F k n pc l st μ := h ▸ kk
theorem HX.none : HX cx Qf none k n pc l st μ := by
  obtain ⟨p, lc, e, Rm, s, m, args, below, meth, c, G, A⟩ := cx
  intro r μ' h
  cases h
theorem r_iconst (hg : HGood cx own b nL lv rt) {i : Int} {v : Int32} (hd : decode b pc = .ok (.iconst i, 1)) (hv : Int32.ofInt i = v) (kk : HX cx Qf F k n (pc + 1) l (.int v :: st) μ) : HX cx Qf F k n pc l st μ := by
  obtain ⟨p, lc, e, Rm, s, m, args, below, meth, c, G, A⟩ := cx
  intro r μ' hF H locs ls hP hS hl hC
  exact lv_iconst hg.1 hg.2.1 hd hv (kk r μ' hF H locs ls hP hS hl hC)
theorem r_bipush (hg : HGood cx own b nL lv rt) {i : Int} {v : Int32} (hd : decode b pc = .ok (.bipush i, 2)) (hv : (Int8.ofInt i).toInt32 = v) (kk : HX cx Qf F k n (pc + 2) l (.int v :: st) μ) : HX cx Qf F k n pc l st μ := by
  obtain ⟨p, lc, e, Rm, s, m, args, below, meth, c, G, A⟩ := cx
  intro r μ' hF H locs ls hP hS hl hC
  exact lv_bipush hg.1 hg.2.1 hd hv (kk r μ' hF H locs ls hP hS hl hC)
theorem r_sipush (hg : HGood cx own b nL lv rt) {i : Int} {v : Int32} (hd : decode b pc = .ok (.sipush i, 3)) (hv : (Int16.ofInt i).toInt32 = v) (kk : HX cx Qf F k n (pc + 3) l (.int v :: st) μ) : HX cx Qf F k n pc l st μ := by
  obtain ⟨p, lc, e, Rm, s, m, args, below, meth, c, G, A⟩ := cx
  intro r μ' hF H locs ls hP hS hl hC
  exact lv_sipush hg.1 hg.2.1 hd hv (kk r μ' hF H locs ls hP hS hl hC)
theorem r_lconst (hg : HGood cx own b nL lv rt) {i : Fin 2} {v : Int64} (hd : decode b pc = .ok (.lconst i, 1)) (hv : Int64.ofNat (i : Nat) = v) (kk : HX cx Qf F k n (pc + 1) l (.long v :: st) μ) : HX cx Qf F k n pc l st μ := by
  obtain ⟨p, lc, e, Rm, s, m, args, below, meth, c, G, A⟩ := cx
  intro r μ' hF H locs ls hP hS hl hC
  exact lv_lconst hg.1 hg.2.1 hd hv (kk r μ' hF H locs ls hP hS hl hC)
theorem r_ldc (hg : HGood cx own b nL lv rt) {i : Nat} {v : Int32} (hw : Cond.constant own i v ∈ h_tb) (hd : decode b pc = .ok (.ldc i, 2)) (kk : HX cx Qf F k n (pc + 2) l (.int v :: st) μ) : HX cx Qf F k n pc l st μ := by
  obtain ⟨p, lc, e, Rm, s, m, args, below, meth, c, G, A⟩ := cx
  intro r μ' hF H locs ls hP hS hl hC
  exact lv_ldc hg.1 hg.2.1 hg.2.2.2.1 (hg.2.2.2.2.1 _ hw) hd (kk r μ' hF H locs ls hP hS hl hC)
theorem r_ldcw (hg : HGood cx own b nL lv rt) {i : Nat} {v : Int32} (hw : Cond.constant own i v ∈ h_tb) (hd : decode b pc = .ok (.ldc_w i, 3)) (kk : HX cx Qf F k n (pc + 3) l (.int v :: st) μ) : HX cx Qf F k n pc l st μ := by
  obtain ⟨p, lc, e, Rm, s, m, args, below, meth, c, G, A⟩ := cx
  intro r μ' hF H locs ls hP hS hl hC
  exact lv_ldcw hg.1 hg.2.1 hg.2.2.2.1 (hg.2.2.2.2.1 _ hw) hd (kk r μ' hF H locs ls hP hS hl hC)
theorem r_ldc2 (hg : HGood cx own b nL lv rt) {i : Nat} {v : Int64} (hw : Cond.constantLong own i v ∈ h_tb) (hd : decode b pc = .ok (.ldc2_w i, 3)) (kk : HX cx Qf F k n (pc + 3) l (.long v :: st) μ) : HX cx Qf F k n pc l st μ := by
  obtain ⟨p, lc, e, Rm, s, m, args, below, meth, c, G, A⟩ := cx
  intro r μ' hF H locs ls hP hS hl hC
  exact lv_ldc2 hg.1 hg.2.1 hg.2.2.2.1 (hg.2.2.2.2.1 _ hw) hd (kk r μ' hF H locs ls hP hS hl hC)
theorem r_iload_n (hg : HGood cx own b nL lv rt) (q : Nat) {j : Fin 4} {i : Nat} {x : Int32} (hd : decode b pc = .ok (.iload_n j, 1)) (hi : (j : Nat) = i) (hl0 : l[q]? = some (i, .int x)) (kk : HX cx Qf F k n (pc + 1) l (.int x :: st) μ) : HX cx Qf F k n pc l st μ := by
  obtain ⟨p, lc, e, Rm, s, m, args, below, meth, c, G, A⟩ := cx
  intro r μ' hF H locs ls hP hS hl hC
  exact lv_iload_n hg.1 hg.2.1 hd hi (lv_at hl q (h_trl_at G hl0)) (kk r μ' hF H locs ls hP hS hl hC)
theorem r_iload (hg : HGood cx own b nL lv rt) (q : Nat) {i : Nat} {x : Int32} (hd : decode b pc = .ok (.iload i, 2)) (hl0 : l[q]? = some (i, .int x)) (kk : HX cx Qf F k n (pc + 2) l (.int x :: st) μ) : HX cx Qf F k n pc l st μ := by
  obtain ⟨p, lc, e, Rm, s, m, args, below, meth, c, G, A⟩ := cx
  intro r μ' hF H locs ls hP hS hl hC
  exact lv_iload hg.1 hg.2.1 hd (lv_at hl q (h_trl_at G hl0)) (kk r μ' hF H locs ls hP hS hl hC)
theorem r_lload_n (hg : HGood cx own b nL lv rt) (q : Nat) {j : Fin 4} {i : Nat} {x : Int64} (hd : decode b pc = .ok (.lload_n j, 1)) (hi : (j : Nat) = i) (hl0 : l[q]? = some (i, .long x)) (kk : HX cx Qf F k n (pc + 1) l (.long x :: st) μ) : HX cx Qf F k n pc l st μ := by
  obtain ⟨p, lc, e, Rm, s, m, args, below, meth, c, G, A⟩ := cx
  intro r μ' hF H locs ls hP hS hl hC
  exact lv_lload_n hg.1 hg.2.1 hd hi (lv_at hl q (h_trl_at G hl0)) (kk r μ' hF H locs ls hP hS hl hC)
theorem r_lload (hg : HGood cx own b nL lv rt) (q : Nat) {i : Nat} {x : Int64} (hd : decode b pc = .ok (.lload i, 2)) (hl0 : l[q]? = some (i, .long x)) (kk : HX cx Qf F k n (pc + 2) l (.long x :: st) μ) : HX cx Qf F k n pc l st μ := by
  obtain ⟨p, lc, e, Rm, s, m, args, below, meth, c, G, A⟩ := cx
  intro r μ' hF H locs ls hP hS hl hC
  exact lv_lload hg.1 hg.2.1 hd (lv_at hl q (h_trl_at G hl0)) (kk r μ' hF H locs ls hP hS hl hC)
theorem r_aload_n (hg : HGood cx own b nL lv rt) (q : Nat) {j : Fin 4} {i : Nat} {x : Nat} (hd : decode b pc = .ok (.aload_n j, 1)) (hi : (j : Nat) = i) (hl0 : l[q]? = some (i, .ref x)) (kk : HX cx Qf F k n (pc + 1) l (.ref x :: st) μ) : HX cx Qf F k n pc l st μ := by
  obtain ⟨p, lc, e, Rm, s, m, args, below, meth, c, G, A⟩ := cx
  intro r μ' hF H locs ls hP hS hl hC
  exact lv_aload_n hg.1 hg.2.1 hd hi (lv_at hl q (h_trl_at G hl0)) (kk r μ' hF H locs ls hP hS hl hC)
theorem r_aload (hg : HGood cx own b nL lv rt) (q : Nat) {i : Nat} {x : Nat} (hd : decode b pc = .ok (.aload i, 2)) (hl0 : l[q]? = some (i, .ref x)) (kk : HX cx Qf F k n (pc + 2) l (.ref x :: st) μ) : HX cx Qf F k n pc l st μ := by
  obtain ⟨p, lc, e, Rm, s, m, args, below, meth, c, G, A⟩ := cx
  intro r μ' hF H locs ls hP hS hl hC
  exact lv_aload hg.1 hg.2.1 hd (lv_at hl q (h_trl_at G hl0)) (kk r μ' hF H locs ls hP hS hl hC)
/-- the locals behind a store -/
def h_st1 (l : List (Nat × Value)) (i : Nat) (v : Value) : List (Nat × Value) := (i, v) :: l.filter (fun q => !(q.1 == i) && !(q.1 + 1 == i && q.2.category == 2))
def h_st2 (l : List (Nat × Value)) (i : Nat) (v : Value) : List (Nat × Value) := (i, v) :: l.filter (fun q => !(q.1 == i) && (!(q.1 == i + 1) && !(q.1 + 1 == i && q.2.category == 2)))
theorem h_st1_tr (G : HGeo) (l : List (Nat × Value)) (i : Nat) (v : Value) : h_st1 (h_trl G l) i (h_tr G v) = h_trl G (h_st1 l i v) := by
  simp only [h_st1, h_trl, List.map_cons, List.filter_map, Function.comp_def, h_tr_cat]
theorem h_st2_tr (G : HGeo) (l : List (Nat × Value)) (i : Nat) (v : Value) : h_st2 (h_trl G l) i (h_tr G v) = h_trl G (h_st2 l i v) := by
  simp only [h_st2, h_trl, List.map_cons, List.filter_map, Function.comp_def, h_tr_cat]
theorem r_istore_n (hg : HGood cx own b nL lv rt) {j : Fin 4} {i : Nat} {x : Int32} {l' : List (Nat × Value)} (hd : decode b pc = .ok (.istore_n j, 1)) (hi : (j : Nat) = i) (hn : i < nL) (hl' : h_st1 l i (.int x) = l') (kk : HX cx Qf F k n (pc + 1) l' st μ) : HX cx Qf F k n pc l (.int x :: st) μ := by
  obtain ⟨p, lc, e, Rm, s, m, args, below, meth, c, G, A⟩ := cx
  subst hl'
  intro r μ' hF H locs ls hP hS hl hC
  exact lv_istore_n hg.1 hg.2.1 hd hi hl (hg.2.2.1 ▸ hn) (h_st1_tr G l i (.int x)) (fun ls' hl' => kk r μ' hF H locs ls' hP hS hl' hC)
theorem r_istore (hg : HGood cx own b nL lv rt) {i : Nat} {x : Int32} {l' : List (Nat × Value)} (hd : decode b pc = .ok (.istore i, 2)) (hn : i < nL) (hl' : h_st1 l i (.int x) = l') (kk : HX cx Qf F k n (pc + 2) l' st μ) : HX cx Qf F k n pc l (.int x :: st) μ := by
  obtain ⟨p, lc, e, Rm, s, m, args, below, meth, c, G, A⟩ := cx
  subst hl'
  intro r μ' hF H locs ls hP hS hl hC
  exact lv_istore hg.1 hg.2.1 hd hl (hg.2.2.1 ▸ hn) (h_st1_tr G l i (.int x)) (fun ls' hl' => kk r μ' hF H locs ls' hP hS hl' hC)
theorem r_lstore_n (hg : HGood cx own b nL lv rt) {j : Fin 4} {i : Nat} {x : Int64} {l' : List (Nat × Value)} (hd : decode b pc = .ok (.lstore_n j, 1)) (hi : (j : Nat) = i) (hn : i + 1 < nL) (hl' : h_st2 l i (.long x) = l') (kk : HX cx Qf F k n (pc + 1) l' st μ) : HX cx Qf F k n pc l (.long x :: st) μ := by
  obtain ⟨p, lc, e, Rm, s, m, args, below, meth, c, G, A⟩ := cx
  subst hl'
  intro r μ' hF H locs ls hP hS hl hC
  exact lv_lstore_n hg.1 hg.2.1 hd hi hl (hg.2.2.1 ▸ hn) (h_st2_tr G l i (.long x)) (fun ls' hl' => kk r μ' hF H locs ls' hP hS hl' hC)
theorem r_lstore (hg : HGood cx own b nL lv rt) {i : Nat} {x : Int64} {l' : List (Nat × Value)} (hd : decode b pc = .ok (.lstore i, 2)) (hn : i + 1 < nL) (hl' : h_st2 l i (.long x) = l') (kk : HX cx Qf F k n (pc + 2) l' st μ) : HX cx Qf F k n pc l (.long x :: st) μ := by
  obtain ⟨p, lc, e, Rm, s, m, args, below, meth, c, G, A⟩ := cx
  subst hl'
  intro r μ' hF H locs ls hP hS hl hC
  exact lv_lstore hg.1 hg.2.1 hd hl (hg.2.2.1 ▸ hn) (h_st2_tr G l i (.long x)) (fun ls' hl' => kk r μ' hF H locs ls' hP hS hl' hC)
theorem r_astore_n (hg : HGood cx own b nL lv rt) {j : Fin 4} {i : Nat} {x : Nat} {l' : List (Nat × Value)} (hd : decode b pc = .ok (.astore_n j, 1)) (hi : (j : Nat) = i) (hn : i < nL) (hl' : h_st1 l i (.ref x) = l') (kk : HX cx Qf F k n (pc + 1) l' st μ) : HX cx Qf F k n pc l (.ref x :: st) μ := by
  obtain ⟨p, lc, e, Rm, s, m, args, below, meth, c, G, A⟩ := cx
  subst hl'
  intro r μ' hF H locs ls hP hS hl hC
  exact lv_astore_n hg.1 hg.2.1 hd hi hl (hg.2.2.1 ▸ hn) (h_st1_tr G l i (.ref x)) (fun ls' hl' => kk r μ' hF H locs ls' hP hS hl' hC)
theorem r_astore (hg : HGood cx own b nL lv rt) {i : Nat} {x : Nat} {l' : List (Nat × Value)} (hd : decode b pc = .ok (.astore i, 2)) (hn : i < nL) (hl' : h_st1 l i (.ref x) = l') (kk : HX cx Qf F k n (pc + 2) l' st μ) : HX cx Qf F k n pc l (.ref x :: st) μ := by
  obtain ⟨p, lc, e, Rm, s, m, args, below, meth, c, G, A⟩ := cx
  subst hl'
  intro r μ' hF H locs ls hP hS hl hC
  exact lv_astore hg.1 hg.2.1 hd hl (hg.2.2.1 ▸ hn) (h_st1_tr G l i (.ref x)) (fun ls' hl' => kk r μ' hF H locs ls' hP hS hl' hC)
theorem r_iinc (hg : HGood cx own b nL lv rt) (q : Nat) {i : Nat} {j : Int} {x v : Int32} {l' : List (Nat × Value)} (hd : decode b pc = .ok (.iinc i j, 3)) (hl0 : l[q]? = some (i, .int x)) (hv : x + Int32.ofInt j = v) (hn : i < nL) (hl' : h_st1 l i (.int v) = l') (kk : HX cx Qf F k n (pc + 3) l' st μ) : HX cx Qf F k n pc l st μ := by
  obtain ⟨p, lc, e, Rm, s, m, args, below, meth, c, G, A⟩ := cx
  subst hl'
  intro r μ' hF H locs ls hP hS hl hC
  exact lv_iinc hg.1 hg.2.1 hd hl (h_trl_at G hl0) hv (hg.2.2.1 ▸ hn) (h_st1_tr G l i (.int v)) (fun ls' hl' => kk r μ' hF H locs ls' hP hS hl' hC)
/-- fewer locals, in another order -/
theorem r_sub {l' : List (Nat × Value)} (ks : List Nat) (hl' : lv_pick l ks = l') (kk : HX cx Qf F k n pc l' st μ) : HX cx Qf F k n pc l st μ := by
  obtain ⟨p, lc, e, Rm, s, m, args, below, meth, c, G, A⟩ := cx
  subst hl'
  intro r μ' hF H locs ls hP hS hl hC
  refine kk r μ' hF H locs ls hP hS (lv_sub hl ks ?_) hC
  simp only [lv_pick, h_trl, List.map_filterMap, List.getElem?_map]
theorem r_dup (hg : HGood cx own b nL lv rt) {v : Value} (hd : decode b pc = .ok (.dup, 1)) (hv : v.category = 1) (kk : HX cx Qf F k n (pc + 1) l (v :: v :: st) μ) : HX cx Qf F k n pc l (v :: st) μ := by
  obtain ⟨p, lc, e, Rm, s, m, args, below, meth, c, G, A⟩ := cx
  intro r μ' hF H locs ls hP hS hl hC
  exact lv_dup hg.1 hg.2.1 hd ((h_tr_cat G v).trans hv) (kk r μ' hF H locs ls hP hS hl hC)
theorem r_dup2 (hg : HGood cx own b nL lv rt) {v w : Value} (hd : decode b pc = .ok (.dup2, 1)) (hv : v.category = 1) (hw : w.category = 1) (kk : HX cx Qf F k n (pc + 1) l (v :: w :: v :: w :: st) μ) : HX cx Qf F k n pc l (v :: w :: st) μ := by
  obtain ⟨p, lc, e, Rm, s, m, args, below, meth, c, G, A⟩ := cx
  intro r μ' hF H locs ls hP hS hl hC
  exact lv_dup2_11 hg.1 hg.2.1 hd ((h_tr_cat G v).trans hv) ((h_tr_cat G w).trans hw) (kk r μ' hF H locs ls hP hS hl hC)
theorem r_goto (hg : HGood cx own b nL lv rt) {off : Int} {tgt : Nat} (hd : decode b pc = .ok (.goto off, 3)) (ht : (pc : Int) + off = (tgt : Int)) (kk : HX cx Qf F k n tgt l st μ) : HX cx Qf F k n pc l st μ := by
  obtain ⟨p, lc, e, Rm, s, m, args, below, meth, c, G, A⟩ := cx
  intro r μ' hF H locs ls hP hS hl hC
  exact lv_goto hg.1 hg.2.1 hd ht (kk r μ' hF H locs ls hP hS hl hC)
end HR
