/-! new int[N][M]: the outer row at z, the inner ones behind it (our own walk of the model's instruction) -/
section NM
def nm_row (comp : ClassId) (M : Nat) : Cell := { cls := comp, slots := Array.replicate M (.int 0), vm := .none }
def nm_out (cA : ClassId) (N z : Nat) : Nat → Cell
  | 0 => { cls := cA, slots := Array.replicate N .null, vm := .none }
  | i + 1 => (nm_out cA N z i).setSlot i (.ref (z + 1 + i))
def nm_st (U : State) (cA comp : ClassId) (N M : Nat) : Nat → State
  | 0 => U.pushCell (nm_out cA N U.heap.size 0)
  | i + 1 => ((nm_st U cA comp N M i).pushCell (nm_row comp M)).setCell U.heap.size (nm_out cA N U.heap.size (i + 1))
theorem nm_out_is (cA : ClassId) (N z : Nat) : ∀ i, (nm_out cA N z i).cls = cA ∧ (nm_out cA N z i).vm = .none ∧ (nm_out cA N z i).slots.size = N
  | 0 => ⟨rfl, rfl, by simp [nm_out]⟩
  | i + 1 => by
    have h := nm_out_is cA N z i
    refine ⟨?_, ?_, ?_⟩ <;> simp [nm_out, Cell.setSlot, h.1, h.2.1, h.2.2]
theorem nm_st_is (U : State) (cA comp : ClassId) (N M : Nat) : ∀ i, (nm_st U cA comp N M i).heap.size = U.heap.size + 1 + i ∧ (nm_st U cA comp N M i).heap[U.heap.size]? = some (nm_out cA N U.heap.size i) ∧ (nm_st U cA comp N M i).vm = U.vm ∧ (nm_st U cA comp N M i).slotsUsed = U.slotsUsed + N + i * M
  | 0 => ⟨by simp [nm_st], by simp [nm_st], rfl, by simp [nm_st, nm_out]⟩
  | i + 1 => by
    have h := nm_st_is U cA comp N M i
    have hlt : U.heap.size < (nm_st U cA comp N M i).heap.size := by rw [h.1]; omega
    have hk : ((nm_st U cA comp N M i).pushCell (nm_row comp M)).heap[U.heap.size]? = some (nm_out cA N U.heap.size i) := by
      rw [State.heap_pushCell_of_lt (h := hlt)]; exact h.2.1
    refine ⟨?_, State.heap_setCell_self hk, by simp [nm_st, h.2.2.1], ?_⟩
    · simp [nm_st, State.setCell, h.1]; omega
    · simp [nm_st, h.2.2.2, nm_row, Nat.succ_mul]; omega
theorem nm_st_top (U : State) (f : JFrame) (cA comp : ClassId) (N M : Nat) : ∀ i, nm_st (U.setTop f) cA comp N M i = (nm_st U cA comp N M i).setTop f
  | 0 => rfl
  | i + 1 => by simp only [nm_st, nm_st_top U f cA comp N M i, State.heap_setTop, State.pushCell_setTop, State.setCell_setTop]
theorem nm_st_old (U : State) (cA comp : ClassId) (N M : Nat) {a : Addr} (ha : a < U.heap.size) : ∀ i, (nm_st U cA comp N M i).heap[a]? = U.heap[a]?
  | 0 => State.heap_pushCell_of_lt _ _ ha
  | i + 1 => by
    have h := (nm_st_is U cA comp N M i).1
    have hlt : a < (nm_st U cA comp N M i).heap.size := Nat.lt_of_lt_of_le ha (by rw [h]; omega)
    show (((nm_st U cA comp N M i).pushCell (nm_row comp M)).setCell U.heap.size _).heap[a]? = _
    rw [State.heap_setCell_other (Nat.ne_of_gt ha), State.heap_pushCell_of_lt (h := hlt)]
    exact nm_st_old U cA comp N M ha i
theorem nm_st_row (U : State) (cA comp : ClassId) (N M : Nat) : ∀ i j, j < i → (nm_st U cA comp N M i).heap[U.heap.size + 1 + j]? = some (nm_row comp M)
  | 0, _, h => absurd h (Nat.not_lt_zero _)
  | i + 1, j, hj => by
    have h := (nm_st_is U cA comp N M i).1
    show (((nm_st U cA comp N M i).pushCell (nm_row comp M)).setCell U.heap.size _).heap[U.heap.size + 1 + j]? = _
    rw [State.heap_setCell_other (show U.heap.size ≠ U.heap.size + 1 + j by omega)]
    by_cases e : j = i
    · subst e
      rw [← h]
      exact State.heap_pushCell_size _ _
    · have hlt : U.heap.size + 1 + j < (nm_st U cA comp N M i).heap.size := by rw [h]; omega
      rw [State.heap_pushCell_of_lt (h := hlt)]
      exact nm_st_row U cA comp N M i j (by omega)
theorem nm_out_at (cA : ClassId) (N z : Nat) : ∀ i j, j < N → (nm_out cA N z i).slots[j]? = some (if j < i then .ref (z + 1 + j) else .null)
  | 0, j, h => by simp [nm_out, h]
  | i + 1, j, h => by
    have ih := nm_out_at cA N z i j h
    have hs := (nm_out_is cA N z i).2.2
    show ((nm_out cA N z i).setSlot i (.ref (z + 1 + i))).slots[j]? = _
    simp only [Cell.setSlot, Array.getElem?_setIfInBounds]
    by_cases e : i = j
    · subst e; simp [hs, h]
    · rw [if_neg e, ih]
      by_cases hj : j < i
      · rw [if_pos hj, if_pos (by omega)]
      · rw [if_neg hj, if_neg (by omega)]
section
variable {E : CtlPost} {e : Env} {d : Bool} {acts : List Action} {U : State}
/-- one row of a known class -/
theorem nm_new {cR comp : ClassId} {kR : Class} {type : FieldType} {len : Nat} {v0 : Value} (hk : U.vm.classes[cR]? = some kR) (hkind : kR.kind = .array comp type) (h1 : ¬ len > e.platform.arrayLengthLimit) (h2 : ¬ len * componentBytes type > e.platform.maxHeapBytes) (hf : fits type v0 = true) (hd : v0.isDefault = true) {Q : Addr → Pre} (h3 : U.heap.size < e.platform.maxCells) (h4 : U.slotsUsed + len ≤ e.platform.maxSlots) (hq : Q U.heap.size d acts (U.pushCell { cls := cR, slots := Array.replicate len v0, vm := .none })) : wp (Jvm.newArray cR len v0) Q E e d acts U := by
  have hfs : ∀ i v, (Array.replicate len v0)[i]? = some v → U.fitsSlot cR .none i v = true := by
    intro i v hv
    simp only [Array.getElem?_replicate] at hv
    split at hv
    · cases hv; simp [State.fitsSlot, State.slotType?, hk, hkind, hf]
    · cases hv
  have hal : allocActs (Array.replicate len v0) U.heap.size acts = acts := by
    have h : ((Array.replicate len v0).all (·.isDefault)) = true := by rw [Array.all_replicate]; split <;> simp [hd]
    unfold allocActs; rw [if_pos h]
  simp only [Jvm.newArray, Jvm.arrayFits, wp_bind', W.ask, W.ite, h1, if_false, wp_pure', W.theClass, hk, hkind, h2, W.alloc, W.stop, Option.some.injEq, exists_eq_left', Array.size_replicate, hal]
  rw [if_neg (by omega)]
  exact ⟨h3, h4, hfs, hq⟩
theorem nm_inner {comp cI : ClassId} {kR : Class} {M : Int32} (hk : U.vm.classes[comp]? = some kR) (hkind : kR.kind = .array cI .int) (hM : ¬ M < 0) (h1 : ¬ M.toNatClampNeg > e.platform.arrayLengthLimit) (h2 : ¬ M.toNatClampNeg * componentBytes .int > e.platform.maxHeapBytes) {Q : Addr → Pre} (h3 : U.heap.size < e.platform.maxCells) (h4 : U.slotsUsed + M.toNatClampNeg ≤ e.platform.maxSlots) (hq : Q U.heap.size d acts (U.pushCell (nm_row comp M.toNatClampNeg))) : wp (multianewarray.make comp [M]) Q E e d acts U := by
  rw [multianewarray.make]
  simp only [wp_bind', W.ite, hM, if_false, wp_pure', W.theClass, hk, hkind, Option.some.injEq, exists_eq_left']
  exact nm_new hk hkind h1 h2 rfl rfl h3 h4 hq
theorem nm_make {cA comp cI : ClassId} {kA kR : Class} {N M : Int32} (hkA : U.vm.classes[cA]? = some kA) (hkindA : kA.kind = .array comp (.array .int)) (hkR : U.vm.classes[comp]? = some kR) (hkindR : kR.kind = .array cI .int) (hN : ¬ N < 0) (hM : ¬ M < 0) (h1 : ¬ N.toNatClampNeg > e.platform.arrayLengthLimit) (h2 : ¬ N.toNatClampNeg * componentBytes (.array .int) > e.platform.maxHeapBytes) (h3 : ¬ M.toNatClampNeg > e.platform.arrayLengthLimit) (h4 : ¬ M.toNatClampNeg * componentBytes .int > e.platform.maxHeapBytes)
    (hc : U.heap.size + 1 + N.toNatClampNeg ≤ e.platform.maxCells) (hs : U.slotsUsed + N.toNatClampNeg + N.toNatClampNeg * M.toNatClampNeg ≤ e.platform.maxSlots) {Q : Addr → Pre} (hq : ∀ d' acts', Q U.heap.size d' acts' (nm_st U cA comp N.toNatClampNeg M.toNatClampNeg N.toNatClampNeg)) : wp (multianewarray.make cA [N, M]) Q E e d acts U := by
  have hnone : ([M].find? (· < 0)) = none := by simp [hM]
  generalize hn : N.toNatClampNeg = n at *
  generalize hm : M.toNatClampNeg = q at *
  rw [multianewarray.make]
  simp only [wp_bind', W.ite, hN, if_false, wp_pure', W.theClass, hkA, hkindA, Option.some.injEq, exists_eq_left', hn]
  refine nm_new hkA hkindA h1 h2 rfl rfl (by omega) (by have := Nat.zero_le (n * q); omega) ?_
  simp only [hnone]
  rw [ite_self, wp_bind', Std.Legacy.Range.forIn_eq_forIn_range', show ([:n] : Std.Legacy.Range).size = n by simp [Std.Legacy.Range.size]]
  show wp (forIn (List.range' 0 n 1) PUnit.unit _) _ E e d acts _
  refine wp_forIn_inv (fun rest s' => ∃ i, i ≤ n ∧ rest = List.range' i (n - i) ∧ s' = nm_st U cA comp n q i) _ _ ⟨0, Nat.zero_le _, rfl, rfl⟩ ?_ ?_
  · rintro x rest s' d' acts' Q' ⟨i, hi, hl, rfl⟩ hnext
    have hlt : i < n := by
      rcases Nat.lt_or_ge i n with h | h
      · exact h
      · rw [show n - i = 0 by omega] at hl; simp at hl
    rw [show n - i = (n - (i + 1)) + 1 by omega, List.range'_succ] at hl
    obtain ⟨rfl, hrest⟩ := List.cons.inj hl
    have hst := nm_st_is U cA comp n q x
    have ho := nm_out_is cA n U.heap.size x
    have hmul : x * q + q ≤ n * q := by
      have := Nat.mul_le_mul_right q (show x + 1 ≤ n from hlt)
      rwa [Nat.succ_mul] at this
    simp only [wp_bind']
    refine nm_inner (by rw [hst.2.2.1]; exact hkR) hkindR hM (by rw [hm]; exact h3) (by rw [hm]; exact h4) (by rw [hst.1]; omega) (by rw [hst.2.2.2, hm]; omega) ?_
    rw [hm]
    have hlt0 : U.heap.size < (nm_st U cA comp n q x).heap.size := by rw [hst.1]; omega
    simp only [wp_bind', W.writeLoc, wp_pure']
    refine ⟨nm_out cA n U.heap.size x, by rw [State.heap_pushCell_of_lt (h := hlt0)]; exact hst.2.1, by rw [ho.2.1]; simp, by rw [ho.2.2]; exact hlt, ?_, hnext _ _ _ ⟨x + 1, hlt, hrest, ?_⟩⟩
    · rw [ho.1, ho.2.1]
      simp [State.fitsSlot, State.slotType?, hst.2.2.1, hkA, hkindA, fits]
    · rw [hst.1]; rfl
  · rintro s' d' acts' ⟨i, hi, hl, rfl⟩
    have hiN : i = n := by
      rcases Nat.lt_or_ge i n with h | h
      · rw [show n - i = (n - (i + 1)) + 1 by omega, List.range'_succ] at hl; cases hl
      · omega
    subst hiN
    simp only [wp_pure']
    exact hq _ _
end
section
variable {p : Program} {l : Launch} {e : Env} {R : Room} {s : State} {m : MethodId} {args : Array Value} {below : List Frame} {meth : Method} {c : Code} {T : State} {locs : List Loc} {cells slots : Nat}
theorem nm_stand (X : Stand p l e R s m args below meth c T locs cells slots) (cA comp : ClassId) (N M : Nat) : ∀ i, Stand p l e R s m args below meth c (nm_st T cA comp N M i) (locs ++ (List.range i).map fun j => ⟨T.heap.size, j⟩) (cells + 1 + i) (slots + N + i * M)
  | 0 => by
    have h := X.pushed (nm_out cA N T.heap.size 0)
    rw [(nm_out_is cA N T.heap.size 0).2.2] at h
    simpa [nm_st] using h
  | i + 1 => by
    have Xi := nm_stand X cA comp N M i
    have hst := nm_st_is T cA comp N M i
    have hlt0 : T.heap.size < (nm_st T cA comp N M i).heap.size := by rw [hst.1]; omega
    have hcell : ((nm_st T cA comp N M i).pushCell (nm_row comp M)).heap[T.heap.size]? = some (nm_out cA N T.heap.size i) := by rw [State.heap_pushCell_of_lt (h := hlt0)]; exact hst.2.1
    have h := (Xi.pushed (nm_row comp M)).stored hcell i (.ref (T.heap.size + 1 + i))
    rw [show (nm_row comp M).slots.size = M by simp [nm_row]] at h
    rw [show (locs ++ (List.range (i + 1)).map fun j => (⟨T.heap.size, j⟩ : Loc)) = (locs ++ (List.range i).map fun j => (⟨T.heap.size, j⟩ : Loc)) ++ [⟨T.heap.size, i⟩] by simp [List.range_succ, List.append_assoc], show slots + N + (i + 1) * M = slots + N + i * M + M by rw [Nat.succ_mul]; omega]
    exact h
theorem nm_step (X : Stand p l e R s m args below meth c T locs cells slots) (hexec : p.tables.exec = Jvm.exec) {own : String} {index : Nat} {cA comp cI : ClassId} {kA kR : Class} (hown : s.vm.findClass own = some m.cls) (hlink : (Cond.classLink own index "[[I").before args s = true) (hfA : s.vm.findClass "[[I" = some cA) (hkA : s.vm.classes[cA]? = some kA) (hkindA : kA.kind = .array comp (.array .int)) (hkR : s.vm.classes[comp]? = some kR) (hkindR : kR.kind = .array cI .int)
    {g : JFrame} (hg : g.method = m) (hdg : decode c.code g.pc = .ok (.multianewarray index 2, 4)) {N M : Int32} {rest : List Value} (hstack : g.stack = .int M :: .int N :: rest) (hN : ¬ N < 0) (hM : ¬ M < 0) (hb1 : N.toNatClampNeg ≤ 1000) (hb2 : M.toNatClampNeg ≤ 1000) (hcells : cells + (1 + N.toNatClampNeg) ≤ R.cells) (hslots : slots + (N.toNatClampNeg + N.toNatClampNeg * M.toNatClampNeg) ≤ R.slots) :
    ∃ vm₁ : Vm, s.WarmedH vm₁ ∧ Stand p l e R s m args below meth c (nm_st (T.setVm vm₁) cA comp N.toNatClampNeg M.toNatClampNeg N.toNatClampNeg) (locs ++ (List.range N.toNatClampNeg).map fun j => ⟨T.heap.size, j⟩) (cells + 1 + N.toNatClampNeg) (slots + N.toNatClampNeg + N.toNatClampNeg * M.toNatClampNeg) ∧
      ∀ target, Steps p.tables e below ((nm_st (T.setVm vm₁) cA comp N.toNatClampNeg M.toNatClampNeg N.toNatClampNeg).setTop { g with pc := g.pc + 4, stack := .ref T.heap.size :: rest }) target → Steps p.tables e below (T.setTop g) target := by
  subst hg
  have hpl : e.platform.magicAccessors = ({} : Platform).magicAccessors := by rw [X.admits.platform]
  obtain ⟨c0, hfc0, hcl⟩ := Cond.classLink_spec hown hlink e.platform hpl
  cases hfA.symm.trans hfc0
  obtain ⟨hg₁, hwarm₁, hready₁⟩ := State.classEntry (e := e) X.warmed hcl
  generalize T.vm.noted g.method.cls index (.cls cA) = vm₁ at hg₁ hwarm₁ hready₁
  obtain ⟨kA₁, hkA₁, heA⟩ := hwarm₁.alike.2.2 _ _ hkA
  obtain ⟨kR₁, hkR₁, heR⟩ := hwarm₁.alike.2.2 _ _ hkR
  have hkindA₁ : kA₁.kind = .array comp (.array .int) := by rw [heA]; exact hkindA
  have hkindR₁ : kR₁.kind = .array cI .int := by rw [heR]; exact hkindR
  have X₁ := X.noted hwarm₁
  obtain ⟨hr1, hr2⟩ := X.roomAbove hcells hslots
  refine ⟨vm₁, hwarm₁, nm_stand X₁ cA comp _ _ _, fun target hrest => ?_⟩
  have ha := Launch.admits_arrayLengthLimit X.admits
  have hh := Launch.admits_maxHeapBytes X.admits
  have hl1 : ¬ N.toNatClampNeg > e.platform.arrayLengthLimit := by rw [ha]; omega
  have hh1 : ¬ N.toNatClampNeg * componentBytes (.array .int) > e.platform.maxHeapBytes := by rw [hh]; show ¬ N.toNatClampNeg * 4 > 536870912; omega
  have hl2 : ¬ M.toNatClampNeg > e.platform.arrayLengthLimit := by rw [ha]; omega
  have hh2 : ¬ M.toNatClampNeg * componentBytes .int > e.platform.maxHeapBytes := by rw [hh]; show ¬ M.toNatClampNeg * 4 > 536870912; omega
  jvm_step X.here [hexec, hdg]
  simp only [multianewarray.sem, wp_bind', W.resolveClassAt_links (State.method?_setTop g X.here.top) hg₁]
  rw [W.popN, if_neg (by decide)]
  refine ⟨g, State.topJava?_setTop' (s := T.setVm vm₁) g X.here.top, [.int N, .int M], rest, rfl, hstack, ?_⟩
  simp only [List.mapM_cons, List.mapM_nil, wp_bind', wp_pure']
  refine nm_make hkA₁ hkindA₁ hkR₁ hkindR₁ hN hM hl1 hh1 hl2 hh2 (by show T.heap.size + 1 + _ ≤ _; omega) (by show T.slotsUsed + _ + _ ≤ _; omega) (fun d' acts' => ?_)
  have XF := nm_stand X₁ cA comp N.toNatClampNeg M.toNatClampNeg N.toNatClampNeg
  have eS : ((T.setTop g).setVm vm₁).setTop { g with stack := rest } = (T.setVm vm₁).setTop { g with stack := rest } := by
    show ((T.setVm vm₁).setTop g).setTop _ = _
    rw [State.setTop_setTop]
  rw [eS, nm_st_top]
  simp only [wp_bind', W.mark, W.pushRef, State.topJava?_setTop' _ XF.here.top, Option.some.injEq, exists_eq_left', State.setTop_setTop, State.heap_setTop]
  intro acts
  simp [jvm, XF.here.top]
  exact hrest
end
end NM
theorem nm_cell_r (cA : ClassId) (M : Nat) : nm_row cA M = arrV cA M (fun _ => .int 0) := by
  unfold nm_row
  exact arrV_new cA M (.int 0)
theorem nm_cell_o (cA : ClassId) (N z : Nat) (f : Nat → Option Nat) (hf : ∀ j, j < N → f j = some (z + 1 + j)) : nm_out cA N z N = arrV cA N (fun j => va_rf (f j)) := by
  obtain ⟨h1, h2, h3⟩ := nm_out_is cA N z N
  have hs : (nm_out cA N z N).slots = (arrV cA N (fun j => va_rf (f j))).slots := by
    apply Array.ext
    · rw [h3, arrV_size]
    · intro i hi _
      have hN : i < N := by rw [h3] at hi; exact hi
      have e := nm_out_at cA N z N i hN
      rw [if_pos hN] at e
      have e2 := Array.getElem?_eq_getElem hi
      rw [e] at e2
      have e3 := (Option.some.inj e2).symm
      rw [e3]
      simp [arrV, hf i hN, va_rf]
  have h4 : ∀ i, nm_out cA N z i = { cls := cA, slots := (nm_out cA N z i).slots, vm := .none } := by
    intro i
    induction i with
    | zero => rfl
    | succ i ih =>
      conv => lhs; rw [nm_out, ih]
      rfl
  rw [h4 N, hs]
  rfl
section NR3
variable {cx : HCx} {Q : State → Prop} {us : va_W} {S : Nat → Prop} {z k n pc : Nat} {l : List (Nat × Value)} {st : List Value} {own : String} {b : ByteArray} {nL lv mc ms : Nat} {rt : Option FieldType}
/-- the nine rows of eight numbers: the ids 107 to 116 -/
theorem n_multi (hg : NGood cx own b nL lv mc ms rt) {idx : Nat} (hga : match cx with
      | (_, _, _, _, _, _, _, _, _, _, G, A) => G.2.2 107 = z ∧ (∀ i, i < 9 → G.2.2 (108 + i) = z + 1 + i) ∧ ∀ q, z ≤ q → A q) (hw : Cond.classLink own idx "[[I" ∈ h_tb) (hkn : k + 10 ≤ mc ∧ n + 81 ≤ ms) (hd : decode b pc = .ok (.multianewarray idx 2, 4)) (hso : ∀ q ∈ us, q.1 < z) (hSz : match cx with
      | (_, _, _, _, _, _, _, _, _, _, G, _) => ∀ e, S e → G.2.2 e < z)
    (kk : NX cx Q us (fun e => S e ∨ 107 ≤ e ∧ e ≤ 116) (z + 10) (k + 10) (n + 81) (pc + 4) l (.ref z :: st)) : NX cx Q us S z k n pc l (.int 8 :: .int 9 :: st) := by
  obtain ⟨p, lc, e, Rm, s, m, args, below, meth, c, G, A⟩ := cx
  intro H locs ls hz ho hS hSS hl hC
  obtain ⟨hx, hb, hml, hown, hts, hK, hmk, hR, hlk, hrt⟩ := id hg
  obtain ⟨g1, g2, g3⟩ := hga
  subst hz
  obtain ⟨kA, hkA, hkindA⟩ := hmk.2.2
  obtain ⟨-, kR, hkR, cI, hkindR⟩ := (hK.2 0 (G.2.1 0, .int) rfl).1 0 (fun _ => .int 0)
  have hfA : s.vm.findClass "[[I" = some (G.2.1 5) := (hK.2 5 (G.2.1 5, .array .int) rfl).2
  intro T hT X
  have hc1 : k + (1 + (9 : Int32).toNatClampNeg) ≤ Rm.cells := by show k + (1 + 9) ≤ _; omega
  have hs1 : n + ((9 : Int32).toNatClampNeg + (9 : Int32).toNatClampNeg * (8 : Int32).toNatClampNeg) ≤ Rm.slots := by show n + (9 + 9 * 8) ≤ _; omega
  obtain ⟨vm₁, hW, XF, hst⟩ := nm_step X hx hown (hts _ hw) hfA hkA hkindA hkR hkindR (g := F0 m pc ls (.int 8 :: .int 9 :: st)) rfl (by rw [hb]; exact hd) (N := 9) (M := 8) rfl (by decide) (by decide) (by decide) (by decide) hc1 hs1
  generalize hF : nm_st (T.setVm vm₁) (G.2.1 5) (G.2.1 0) (9 : Int32).toNatClampNeg (8 : Int32).toNatClampNeg (9 : Int32).toNatClampNeg = F at XF hst
  have hh : (T.setVm vm₁).heap = H := hT
  have i1 := nm_st_is (T.setVm vm₁) (G.2.1 5) (G.2.1 0) (9 : Int32).toNatClampNeg (8 : Int32).toNatClampNeg (9 : Int32).toNatClampNeg
  have i2 : ∀ a : Nat, a < H.size → F.heap[a]? = H[a]? := fun a ha => by
    have := nm_st_old (T.setVm vm₁) (G.2.1 5) (G.2.1 0) (9 : Int32).toNatClampNeg (8 : Int32).toNatClampNeg (a := a) (by rw [hh]; exact ha) (9 : Int32).toNatClampNeg
    rw [hF, hh] at this
    exact this
  have i3 := nm_st_row (T.setVm vm₁) (G.2.1 5) (G.2.1 0) (9 : Int32).toNatClampNeg (8 : Int32).toNatClampNeg (9 : Int32).toNatClampNeg
  rw [hF, hh] at i1 i3
  obtain ⟨j1, j2, -, -⟩ := i1
  have hTs : T.heap.size = H.size := by rw [hT]
  have hzF : F.heap.size = H.size + 10 := by rw [j1]; rfl
  have hS2 : HDone G (fun e => S e ∨ 107 ≤ e ∧ e ≤ 116) F.heap := by
    intro d hd
    rcases hd with hd | ⟨hd1, hd2⟩
    · exact (hS d hd).kept (i2 _ (hSz d hd))
    · by_cases h7 : d = 107
      · subst h7
        rw [h_cell_6 G h_μ0 (c := 107) (by decide)]
        show F.heap[G.2.2 107]? = some (vp_cell _ _)
        rw [g1, j2, vp_cell_q]
        refine congrArg some (nm_cell_o (G.2.1 5) 9 H.size (fun i => some (G.2.2 (h_el 107 i))) (fun j hj => ?_))
        show some (G.2.2 (h_el 107 j)) = _
        rw [show h_el 107 j = 108 + j from by simp [h_el], g2 j hj]
      · obtain ⟨i, rfl⟩ : ∃ i, d = 108 + i := ⟨d - 108, by omega⟩
        have hi : i < 9 := by omega
        have hk1 : h_kd (108 + i) = 1 := (by decide : ∀ i, i < 9 → h_kd (108 + i) = 1) i hi
        have hk2 : h_len (108 + i) = 8 := (by decide : ∀ i, i < 9 → h_len (108 + i) = 8) i hi
        rw [h_cell_1 G h_μ0 hk1, hk2]
        show F.heap[G.2.2 (108 + i)]? = some (vp_cell _ _)
        rw [g2 i hi, i3 i hi, vp_cell_i]
        exact congrArg some (nm_cell_r (G.2.1 0) 8)
  have hL2 : ∀ q ∈ locs ++ (List.range (9 : Int32).toNatClampNeg).map fun j => (⟨T.heap.size, j⟩ : Loc), A q.base := by
    intro q hq
    rcases List.mem_append.mp hq with hq | hq
    · exact hSS.2.2 q hq
    · obtain ⟨j, -, rfl⟩ := List.mem_map.mp hq
      exact g3 _ (by show H.size ≤ T.heap.size; omega)
  obtain ⟨t2, a1, b1⟩ := kk F.heap _ ls hzF (ho.kept (fun k x hx => i2 _ (hso x (List.mem_of_getElem? hx)))) hS2 ⟨Nat.le_trans hSS.1 (by omega), fun x h1 h2 => (i2 x (Nat.lt_of_lt_of_le h1 hSS.1)).trans (hSS.2.1 x h1 h2), hL2⟩ hl ⟨by omega, by omega⟩ F rfl XF
  refine ⟨t2, hst t2 ?_, b1⟩
  rw [hTs]
  exact a1
end NR3
