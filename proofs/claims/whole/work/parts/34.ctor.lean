/-! Constructors: the cells come one behind another; the id c lies at base + h_perm c. -/
def h_perm (c : Nat) : Nat := if c < 16 then 109 + c else if c < 20 then c - 14 else if c < 84 then c - 12 else if c = 84 then 0 else if c = 85 then 1 else if c = 86 then 6 else if c = 87 then 7 else if c < 125 then c - 16 else c
def h_μ0 : HMem := (fun _ _ => 0, fun _ _ => 0)
/-- the geometry of a run that begins at base; the script lies at b -/
def HGeoAt (G : HGeo) (base b : Nat) : Prop := ∀ c, G.2.2 c = if c = 144 then b else base + h_perm c
/-- these cells stand as at the start -/
def HDone (G : HGeo) (S : Nat → Prop) (H : Heap) : Prop := ∀ d, S d → va_at G.1 h_cl (G.2.2 d, h_cell G h_μ0 d) H
theorem HDone.kept {G : HGeo} {S : Nat → Prop} {H H1 : Heap} (h : HDone G S H) (hq : ∀ d, S d → H1[G.2.2 d]? = H[G.2.2 d]?) : HDone G S H1 := fun d hd => (h d hd).kept (hq d hd)
theorem HDone.or {G : HGeo} {S T : Nat → Prop} {H : Heap} (h : HDone G S H) (h2 : HDone G T H) : HDone G (fun d => S d ∨ T d) H := fun d hd => hd.elim (h d) (h2 d)
/-- words of making that aren't good -/
def h_nests2 : List (String × Nat × MethodName × String) := [("HomBench", 15, ⟨"HomBench$Graph", "<init>", "()V"⟩, "HomBench"), ("HomBench$History", 17, ⟨"HomBench$Graph", "<init>", "()V"⟩, "HomBench"), ("HomBench", 29, ⟨"HomBench$Text", "<init>", "()V"⟩, "HomBench"), ("HomBench", 36, ⟨"HomBench$Script", "<init>", "()V"⟩, "HomBench"), ("HomBench", 43, ⟨"HomBench$Elimination", "<init>", "()V"⟩, "HomBench"), ("HomBench", 50, ⟨"HomBench$MapSums", "<init>", "()V"⟩, "HomBench"), ("HomBench", 57, ⟨"HomBench$HomSearch", "<init>", "()V"⟩, "HomBench"), ("HomBench", 64, ⟨"HomBench$Bijections", "<init>", "()V"⟩, "HomBench"), ("HomBench", 75, ⟨"HomBench$Walks", "<init>", "()V"⟩, "HomBench")]
def h_gg (G : HGeo) (U : State) : Prop := ∃ kA : Class, U.vm.classes[G.2.1 5]? = some kA ∧ kA.kind = .array (G.2.1 0) (.array .int)
theorem h_gg.moved {G : HGeo} {u U : State} (hvm : u.vm.Alike U.vm) (h : h_gg G u) : h_gg G U := by
  obtain ⟨kA, h1, h2⟩ := h
  obtain ⟨k', hk', he⟩ := hvm.2.2 _ _ h1
  exact ⟨k', hk', by rw [he]; exact h2⟩
def h_mk (G : HGeo) (U : State) : Prop := (∀ q ∈ h_nests2, va_Nw (.methodLinkNest q.1 q.2.1 q.2.2.1 q.2.2.2) U) ∧ va_AO "HomBench$Graph" U ∧ h_gg G U
theorem h_mk.same {G : HGeo} {s U : State} (hv : s.vm = U.vm) (h : h_mk G s) : h_mk G U := ⟨fun q hq => va_Nw.same rfl hv (h.1 q hq), va_AO.moved (by rw [hv]; exact Vm.Alike.refl _) h.2.1, h_gg.moved (by rw [hv]; exact Vm.Alike.refl _) h.2.2⟩
theorem h_mk.warm {G : HGeo} {s U : State} (hW : s.WarmedH U.vm) (h : h_mk G s) : h_mk G U := ⟨fun q hq => va_Nw.warmM hW (h.1 q hq), va_AO.moved hW.alike h.2.1, h_gg.moved hW.alike h.2.2⟩
/-- the judgement of a constructor's walk: the cells under way are us; S stands; the heap has z cells -/
def NX (cx : HCx) (Q : State → Prop) (us : va_W) (S : Nat → Prop) (z k n pc : Nat) (l : List (Nat × Value)) (st : List Value) : Prop := match cx with
  | (p, lc, e, Rm, s, m, args, below, meth, c, G, A) => ∀ (H : Heap) (locs : List Loc) (ls : Array Slot), H.size = z → va_P G.1 h_cl us H → HDone G S H → va_S A s.heap H locs → lv_has ls c.maxLocals l → k ≤ Rm.cells ∧ n ≤ Rm.slots →
      W p lc e Rm s m args below meth c H locs k n Q (F0 m pc ls st)
def NGood (cx : HCx) (own : String) (b : ByteArray) (nL lv mc ms : Nat) (rt : Option FieldType) : Prop := match cx with
  | (p, _, _, R, s, m, args, _, meth, c, G, A) => p.tables.exec = Jvm.exec ∧ c.code = b ∧ c.maxLocals = nL ∧ s.vm.findClass own = some m.cls ∧ (∀ w ∈ h_tb, w.before args s = true) ∧ va_K G.1 h_cl (h_tys G) s ∧ h_mk G s ∧ (lv ≤ R.frames ∧ 64 * lv ≤ R.locals ∧ mc ≤ R.cells ∧ ms ≤ R.slots) ∧ meth.locks = false ∧ meth.sig.returnType = rt
section NR
variable {cx : HCx} {Q : State → Prop} {us : va_W} {S : Nat → Prop} {z k n pc : Nat} {l : List (Nat × Value)} {st : List Value} {own : String} {b : ByteArray} {nL lv mc ms : Nat} {rt : Option FieldType}
theorem n_aload (hg : NGood cx own b nL lv mc ms rt) (q : Nat) {j : Fin 4} {i : Nat} {x : Nat} (hd : decode b pc = .ok (.aload_n j, 1)) (hi : (j : Nat) = i) (hl0 : l[q]? = some (i, .ref x)) (kk : NX cx Q us S z k n (pc + 1) l (.ref x :: st)) : NX cx Q us S z k n pc l st := by
  obtain ⟨p, lc, e, Rm, s, m, args, below, meth, c, G, A⟩ := cx
  intro H locs ls hz ho hS hSS hl hC
  exact lv_aload_n hg.1 hg.2.1 hd hi (lv_at hl q hl0) (kk H locs ls hz ho hS hSS hl hC)
theorem n_iload (hg : NGood cx own b nL lv mc ms rt) (q : Nat) {j : Fin 4} {i : Nat} {x : Int32} (hd : decode b pc = .ok (.iload_n j, 1)) (hi : (j : Nat) = i) (hl0 : l[q]? = some (i, .int x)) (kk : NX cx Q us S z k n (pc + 1) l (.int x :: st)) : NX cx Q us S z k n pc l st := by
  obtain ⟨p, lc, e, Rm, s, m, args, below, meth, c, G, A⟩ := cx
  intro H locs ls hz ho hS hSS hl hC
  exact lv_iload_n hg.1 hg.2.1 hd hi (lv_at hl q hl0) (kk H locs ls hz ho hS hSS hl hC)
theorem n_istore (hg : NGood cx own b nL lv mc ms rt) {j : Fin 4} {i : Nat} {x : Int32} {l' : List (Nat × Value)} (hd : decode b pc = .ok (.istore_n j, 1)) (hi : (j : Nat) = i) (hn : i < nL) (hl' : h_st1 l i (.int x) = l') (kk : NX cx Q us S z k n (pc + 1) l' st) : NX cx Q us S z k n pc l (.int x :: st) := by
  obtain ⟨p, lc, e, Rm, s, m, args, below, meth, c, G, A⟩ := cx
  subst hl'
  intro H locs ls hz ho hS hSS hl hC
  exact lv_istore_n hg.1 hg.2.1 hd hi hl (hg.2.2.1 ▸ hn) rfl (fun ls' hl' => kk H locs ls' hz ho hS hSS hl' hC)
theorem n_iinc (hg : NGood cx own b nL lv mc ms rt) (q : Nat) {i : Nat} {j : Int} {x v : Int32} {l' : List (Nat × Value)} (hd : decode b pc = .ok (.iinc i j, 3)) (hl0 : l[q]? = some (i, .int x)) (hv : x + Int32.ofInt j = v) (hn : i < nL) (hl' : h_st1 l i (.int v) = l') (kk : NX cx Q us S z k n (pc + 3) l' st) : NX cx Q us S z k n pc l st := by
  obtain ⟨p, lc, e, Rm, s, m, args, below, meth, c, G, A⟩ := cx
  subst hl'
  intro H locs ls hz ho hS hSS hl hC
  exact lv_iinc hg.1 hg.2.1 hd hl hl0 hv (hg.2.2.1 ▸ hn) rfl (fun ls' hl' => kk H locs ls' hz ho hS hSS hl' hC)
theorem n_iconst (hg : NGood cx own b nL lv mc ms rt) {i : Int} {v : Int32} (hd : decode b pc = .ok (.iconst i, 1)) (hv : Int32.ofInt i = v) (kk : NX cx Q us S z k n (pc + 1) l (.int v :: st)) : NX cx Q us S z k n pc l st := by
  obtain ⟨p, lc, e, Rm, s, m, args, below, meth, c, G, A⟩ := cx
  intro H locs ls hz ho hS hSS hl hC
  exact lv_iconst hg.1 hg.2.1 hd hv (kk H locs ls hz ho hS hSS hl hC)
theorem n_bipush (hg : NGood cx own b nL lv mc ms rt) {i : Int} {v : Int32} (hd : decode b pc = .ok (.bipush i, 2)) (hv : (Int8.ofInt i).toInt32 = v) (kk : NX cx Q us S z k n (pc + 2) l (.int v :: st)) : NX cx Q us S z k n pc l st := by
  obtain ⟨p, lc, e, Rm, s, m, args, below, meth, c, G, A⟩ := cx
  intro H locs ls hz ho hS hSS hl hC
  exact lv_bipush hg.1 hg.2.1 hd hv (kk H locs ls hz ho hS hSS hl hC)
theorem n_sipush (hg : NGood cx own b nL lv mc ms rt) {i : Int} {v : Int32} (hd : decode b pc = .ok (.sipush i, 3)) (hv : (Int16.ofInt i).toInt32 = v) (kk : NX cx Q us S z k n (pc + 3) l (.int v :: st)) : NX cx Q us S z k n pc l st := by
  obtain ⟨p, lc, e, Rm, s, m, args, below, meth, c, G, A⟩ := cx
  intro H locs ls hz ho hS hSS hl hC
  exact lv_sipush hg.1 hg.2.1 hd hv (kk H locs ls hz ho hS hSS hl hC)
theorem n_goto (hg : NGood cx own b nL lv mc ms rt) {off : Int} {tgt : Nat} (hd : decode b pc = .ok (.goto off, 3)) (ht : (pc : Int) + off = (tgt : Int)) (kk : NX cx Q us S z k n tgt l st) : NX cx Q us S z k n pc l st := by
  obtain ⟨p, lc, e, Rm, s, m, args, below, meth, c, G, A⟩ := cx
  intro H locs ls hz ho hS hSS hl hC
  exact lv_goto hg.1 hg.2.1 hd ht (kk H locs ls hz ho hS hSS hl hC)
theorem n_dup (hg : NGood cx own b nL lv mc ms rt) {v : Value} (hd : decode b pc = .ok (.dup, 1)) (hv : v.category = 1) (kk : NX cx Q us S z k n (pc + 1) l (v :: v :: st)) : NX cx Q us S z k n pc l (v :: st) := by
  obtain ⟨p, lc, e, Rm, s, m, args, below, meth, c, G, A⟩ := cx
  intro H locs ls hz ho hS hSS hl hC
  exact lv_dup hg.1 hg.2.1 hd hv (kk H locs ls hz ho hS hSS hl hC)
/-- a comparison that goes on, one that leaves -/
theorem n_icmp_on (hg : NGood cx own b nL lv mc ms rt) {x y : Int32} {off : Int} {tgt : Nat} (hd : decode b pc = .ok (.if_icmp .ge off, 3)) (ht : (pc : Int) + off = (tgt : Int)) (h : ¬ y ≤ x) (kk : NX cx Q us S z k n (pc + 3) l st) : NX cx Q us S z k n pc l (.int y :: .int x :: st) := by
  obtain ⟨p, lc, e, Rm, s, m, args, below, meth, c, G, A⟩ := cx
  intro H locs ls hz ho hS hSS hl hC
  exact lv_icmp_ge hg.1 hg.2.1 hd ht (fun q => absurd q h) (fun _ => kk H locs ls hz ho hS hSS hl hC)
theorem n_icmp_off (hg : NGood cx own b nL lv mc ms rt) {x y : Int32} {off : Int} {tgt : Nat} (hd : decode b pc = .ok (.if_icmp .ge off, 3)) (ht : (pc : Int) + off = (tgt : Int)) (h : y ≤ x) (kk : NX cx Q us S z k n tgt l st) : NX cx Q us S z k n pc l (.int y :: .int x :: st) := by
  obtain ⟨p, lc, e, Rm, s, m, args, below, meth, c, G, A⟩ := cx
  intro H locs ls hz ho hS hSS hl hC
  exact lv_icmp_ge hg.1 hg.2.1 hd ht (fun _ => kk H locs ls hz ho hS hSS hl hC) (fun q => absurd h q)
theorem n_objInit (hg : NGood cx own b nL lv mc ms rt) {i x : Nat} (hw : Cond.methodLink own i Lib.objectInit ∈ h_tb) (hw2 : Cond.instanceMethod Lib.objectInit ∈ h_tb) (hw3 : Cond.code Lib.objectInit ⟨#[0xb1]⟩ 1 none ∈ h_tb) (hd : decode b pc = .ok (.invokespecial i, 3)) (hlv : 1 ≤ lv) (hst : (st.map fun v => v.category).sum ≤ 8) (kk : NX cx Q us S z k n (pc + 3) l st) : NX cx Q us S z k n pc l (.ref x :: st) := by
  obtain ⟨p, lc, e, Rm, s, m, args, below, meth, c, G, A⟩ := cx
  intro H locs ls hz ho hS hSS hl hC
  obtain ⟨hx, hb, hml, hown, hts, hK, hmk, hR, hlk, hrt⟩ := id hg
  refine W.objInit hx hb hown (hts _ hw) (hts _ hw2) (hts _ hw3) rfl (by exact hl.1) rfl hd (by omega) (by show 2 * 0 + (st.map fun v => v.category).sum + 12 ≤ _; omega) ?_
  exact W.eq (g2 := F0 m (pc + 3) ls st) rfl (kk H locs ls hz ho hS hSS hl hC)
/-- a new array of numbers: it is the id d -/
theorem n_newa (hg : NGood cx own b nL lv mc ms rt) {N : Nat} {i : Int32} {d : Nat} {atype : ArrayType} {ty : FieldType} {t0 : Nat} {a0 : vp_A} {cA : ClassId} (hga : match cx with
      | (_, _, _, _, s, _, _, _, _, _, G, _) => G.2.2 d = z ∧ (h_tys G)[t0]? = some (cA, ty) ∧ h_cell G h_μ0 d = .inl (cA, a0)) (hty : newarray.typeOf atype = ty) (hw : Cond.arrayClass ty ∈ h_tb) (hRA : ∀ U : State, va_RA U cA ty → U.vm.findClass ("[" ++ ty.toString) = some cA) (ha : ∀ cA : ClassId, vp_cell cA a0 = arrV cA N (fun _ => defaultValue ty)) (hn : ¬ i < 0) (hN : i.toNatClampNeg = N) (hbytes : N * componentBytes ty ≤ 536870912) (hkn : k + 1 ≤ mc ∧ n + N ≤ ms) (hd : decode b pc = .ok (.newarray atype, 2)) (hso : ∀ q ∈ us, q.1 < z) (hSz : match cx with
      | (_, _, _, _, _, _, _, _, _, _, G, _) => ∀ e, S e → G.2.2 e < z)
    (kk : NX cx Q us (fun e => S e ∨ e = d) (z + 1) (k + 1) (n + N) (pc + 2) l (.ref z :: st)) : NX cx Q us S z k n pc l (.int i :: st) := by
  obtain ⟨p, lc, e, Rm, s, m, args, below, meth, c, G, A⟩ := cx
  intro H locs ls hz ho hS hSS hl hC
  obtain ⟨hx, hb, hml, hown, hts, hK, hmk, hR, hlk, hrt⟩ := id hg
  obtain ⟨g1, g2, g3⟩ := hga
  subst hz
  have hcA := hRA s (hK.2 t0 _ g2).2
  have hkn2 : k + 1 ≤ Rm.cells ∧ n + N ≤ Rm.slots := ⟨by omega, by omega⟩
  subst hty
  refine va_newaK hx hb (hts _ hw) rfl hd rfl hn hN hbytes hkn2.1 hkn2.2 rfl fun H1 cA' e1 z1 o1 hAr hNm => ?_
  have hcc : cA' = cA := Option.some.inj (by rw [← hNm, ← hcA])
  subst hcc
  refine kk H1 locs ls z1 (ho.kept (fun k x hx => o1 _ (hso x (List.mem_of_getElem? hx)))) ?_ ⟨Nat.le_trans hSS.1 (by omega), fun x h1 h2 => (o1 x (Nat.lt_of_lt_of_le h1 hSS.1)).trans (hSS.2.1 x h1 h2), hSS.2.2⟩ hl hkn2
  intro d' hd'
  rcases hd' with hd' | rfl
  · exact (hS d' hd').kept (o1 _ (hSz d' hd'))
  · show va_at _ _ (G.2.2 d', h_cell G h_μ0 d') H1
    rw [g1, g3]
    show H1[H.size]? = some (vp_cell _ _)
    rw [ha]
    exact e1
/-- a final field of the object under way -/
theorem n_putF (hg : NGood cx own b nL lv mc ms rt) {oa : Nat} {us' : va_W} {ci j idx N : Nat} {fs : List Value} {v : Value} {C : String} {T : u_T} {ty0 : Nat → FieldType} {ty : FieldType} (hc : h_cls ci C T N) (hty : ∀ k, k < N → parseFieldDescriptor (T k).2.2.1 = some (ty0 k)) (hnm : ∀ a, a < N → ∀ b, b < N → a ≠ b → (T a).2.1 ≠ (T b).2.1) (ho1 : us = (oa, .inr (ci, fs)) :: us') (hus : ∀ q ∈ us', q.1 ≠ oa) (hj : j < N) (hfin : (T j).2.2.2 = true) (hdecl : (T j).1 = own) (hin : match cx with
      | (_, _, _, _, _, _, _, _, meth, _, _, _) => meth.name = "<init>") (hdt : parseFieldDescriptor (T j).2.2.1 = some ty) (hnr : narrow ty v = v) (hft : fits ty v = true) (hlen : j < fs.length) (hw : Cond.fieldLink own idx (T j).1 (T j).2.1 (T j).2.2.1 ∈ h_tb) (hd : decode b pc = .ok (.putfield idx, 3)) (hAo : match cx with
      | (_, _, _, _, _, _, _, _, _, _, G, A) => A oa ∧ ∀ e, S e → G.2.2 e ≠ oa)
    (kk : NX cx Q ((oa, .inr (ci, fs.set j v)) :: us') S z k n (pc + 3) l st) : NX cx Q us S z k n pc l (v :: .ref oa :: st) := by
  obtain ⟨p, lc, e, Rm, s, m, args, below, meth, c, G, A⟩ := cx
  subst ho1
  intro H locs ls hz ho hS hSS hl hC
  obtain ⟨hx, hb, hml, hown, hts, hK, hmk, hR, hlk, hrt⟩ := id hg
  have hap := va_apart (own := own) hts hc.2 ty0 hty hnm hK hc.1
  obtain ⟨r, h1, cell, q1, q2, q3, q4⟩ := ho 0 _ rfl
  have hr : r = (C, T, N) := Option.some.inj (h1.symm.trans hc.1)
  subst hr
  obtain ⟨hS0, hfc, kC, hkC, hkind⟩ := hK.1 ci _ hc.1
  obtain ⟨cf, kf, fi, f, hi, hsl⟩ := hS0 j hj
  have hlay := hts _ (hc.2 _ (u_in_lay hj))
  unfold u_lay at hlay
  rw [if_pos hfin] at hlay
  have hst := (u_facts hfc hkC (u_lays hts hc.2 hj) hi).1
  have hcf : m.cls = cf := by
    obtain ⟨_, _, c', _, _, _, -, -, hf', -, -, -, hown2, -⟩ := Cond.laysFinal_spec hlay
    have e1 : c' = cf := by have := hi.symm.trans hf'; simp at this; exact this.1.symm
    rw [hdecl] at hown2
    rw [← e1]; exact Option.some.inj (hown.symm.trans hown2)
  have h6 := u_fits hfc hkC hkind (Or.inr hlay) hi hdt hnr hft
  refine W.putFinK hx hb hown (hts _ hw) hi hst hcf hin (by rw [q2]; exact h6) q1 q3 (by rw [hsl]; exact k2_hasslot (q4 j hj)) rfl rfl hd fun H' e1 e2 e3 => ?_
  rw [hsl] at e1 ⊢
  refine kk H' _ ls (e2.trans hz) (fun k x hx => ?_) (hS.kept (fun d hd => e3 _ (hAo.2 d hd))) (hSS.put e2 e3 hAo.1) hl hC
  match k, hx with
  | 0, hx => cases hx; exact ⟨_, hc.1, t_OB.to (V := updV (vp_V fs) j v) ⟨_, e1, q2, q3, t_set q4 hap hj v⟩ (fun j _ => vp_updV_set hlen v j)⟩
  | k + 1, hx => exact (ho (k + 1) x hx).kept (e3 _ (hus x (List.mem_of_getElem? hx)))
/-- a ref field of the object under way is read -/
theorem n_get (hg : NGood cx own b nL lv mc ms rt) {oa : Nat} {us' : va_W} {ci j idx N : Nat} {fs : List Value} {v : Value} {C : String} {T : u_T} (hc : h_cls ci C T N) (ho1 : us = (oa, .inr (ci, fs)) :: us') (hj : j < N) (hv : fs[j]? = some v) (hw : Cond.fieldLink own idx (T j).1 (T j).2.1 (T j).2.2.1 ∈ h_tb) (hd : decode b pc = .ok (.getfield idx, 3)) (kk : NX cx Q us S z k n (pc + 3) l (v :: st)) : NX cx Q us S z k n pc l (.ref oa :: st) := by
  obtain ⟨p, lc, e, Rm, s, m, args, below, meth, c, G, A⟩ := cx
  intro H locs ls hz ho hS hSS hl hC
  exact va_get hg.1 hg.2.1 hg.2.2.2.2.1 hc.2 hg.2.2.2.1 hg.2.2.2.2.2.1 ho 0 (by rw [ho1]; rfl) hc.1 j hj (hg.2.2.2.2.1 _ hw) (fun x h => h) hv hd (kk H locs ls hz ho hS hSS hl hC)
/-- a new array of graphs: it is under way -/
theorem n_newq (hg : NGood cx own b nL lv mc ms rt) {N idx : Nat} {i : Int32} {cA : ClassId} (hga : match cx with
      | (_, _, _, _, _, _, _, _, _, _, G, _) => cA = G.2.1 4) (hw : Cond.classLink own idx "HomBench$Graph" ∈ h_tb) (hn : ¬ i < 0) (hN : i.toNatClampNeg = N) (hbytes : N * 4 ≤ 536870912) (hkn : k + 1 ≤ mc ∧ n + N ≤ ms) (hd : decode b pc = .ok (.anewarray idx, 3)) (hso : ∀ q ∈ us, q.1 < z) (hSz : match cx with
      | (_, _, _, _, _, _, _, _, _, _, G, _) => ∀ e, S e → G.2.2 e < z)
    (kk : NX cx Q (us ++ [(z, .inl (cA, N, .inr (.inr (.inr (.inr (fun _ => none))))))]) S (z + 1) (k + 1) (n + N) (pc + 3) l (.ref z :: st)) : NX cx Q us S z k n pc l (.int i :: st) := by
  obtain ⟨p, lc, e, Rm, s, m, args, below, meth, c, G, A⟩ := cx
  intro H locs ls hz ho hS hSS hl hC
  obtain ⟨hx, hb, hml, hown, hts, hK, hmk, hR, hlk, hrt⟩ := id hg
  have hga' : cA = G.2.1 4 := hga
  subst hz
  subst hN
  have hkn2 : k + 1 ≤ Rm.cells ∧ n + i.toNatClampNeg ≤ Rm.slots := ⟨by omega, by omega⟩
  refine W.anew hx hb hown (hts _ hw) (va_AO.use hmk.2.1) rfl hd rfl hn hbytes hkn2.1 hkn2.2 fun cA' kA comp f1 f2 f3 f4 => ?_
  have hcc : cA' = cA := by
    obtain ⟨kA2, comp2, -, -, -, g4⟩ := (hK.2 4 (G.2.1 4, .object "HomBench$Graph") rfl).2
    rw [hga']
    exact Option.some.inj (by rw [← f1, ← g4])
  subst hcc
  generalize hH1 : H.push ({ cls := cA', slots := Array.replicate i.toNatClampNeg .null, vm := .none } : Cell) = H1
  have z1 : H1.size = H.size + 1 := by rw [← hH1, Array.size_push]
  have e1 : H1[H.size]? = some (arrV cA' i.toNatClampNeg (fun _ => .null)) := by rw [← hH1, Array.getElem?_push_size, ← arrV_new]
  have o1 : ∀ q : Nat, q < H.size → H1[q]? = H[q]? := fun q hq => by rw [← hH1, Array.getElem?_push, if_neg (Nat.ne_of_lt hq)]
  refine kk H1 locs ls z1 ((ho.kept (fun k x hx => o1 _ (hso x (List.mem_of_getElem? hx)))).app (fun k x hx => ?_)) (hS.kept (fun d hd => o1 _ (hSz d hd))) ⟨Nat.le_trans hSS.1 (by omega), fun x h1 h2 => (o1 x (Nat.lt_of_lt_of_le h1 hSS.1)).trans (hSS.2.1 x h1 h2), hSS.2.2⟩ hl hkn2
  have hz1 : k < 1 := (List.getElem?_eq_some_iff.mp hx).1
  rw [show k = 0 by omega] at hx
  cases hx
  exact e1
/-- a store of a graph into the array under way -/
theorem n_aast (hg : NGood cx own b nL lv mc ms rt) {ua N g : Nat} {i : Int32} {cA : ClassId} {f : Nat → Option Nat} {x0 : Nat × va_E} (hus : us = [x0, (ua, .inl (cA, N, .inr (.inr (.inr (.inr f)))))]) (hx0 : x0.1 ≠ ua) (hga : match cx with
      | (_, _, _, _, _, _, _, _, _, _, G, A) => cA = G.2.1 4 ∧ A ua ∧ S g ∧ h_kd g = 10 ∧ ∀ e, S e → G.2.2 e ≠ ua) (hin : vp_in i N) (hd : decode b pc = .ok (.aastore, 1)) {v : Nat} (hv : match cx with
      | (_, _, _, _, _, _, _, _, _, _, G, _) => v = G.2.2 g)
    (kk : NX cx Q [x0, (ua, .inl (cA, N, .inr (.inr (.inr (.inr (va_up f i.toNatClampNeg (some v)))))))] S z k n (pc + 1) l st) : NX cx Q us S z k n pc l (.ref v :: .int i :: .ref ua :: st) := by
  obtain ⟨p, lc, e, Rm, s, m, args, below, meth, c, G, A⟩ := cx
  intro H locs ls hz ho hS hSS hl hC
  obtain ⟨hx, hb, hml, hown, hts, hK, hmk, hR, hlk, hrt⟩ := id hg
  obtain ⟨g1, g2, g3, g4, g5⟩ := hga
  have hv' : v = G.2.2 g := hv
  subst hus
  subst hv'
  have hgr := hS g g3
  rw [h_cell_o G h_μ0 (ci := 0) g4] at hgr
  have hP2 : va_P G.1 h_cl [(ua, .inl (cA, N, .inr (.inr (.inr (.inr f))))), (G.2.2 g, .inr (0, (h_fl g).mapIdx (fun k q => h_fv G h_μ0 g k q)))] H := by
    intro k x hx
    match k, hx with
    | 0, hx => cases hx; exact ho 1 _ rfl
    | 1, hx => cases hx; exact hgr
    | k + 2, hx => simp at hx
  have hne : ua ≠ G.2.2 g := fun h => g5 g g3 h.symm
  have hlt : i.toNatClampNeg < N := Nat.not_le.mp fun q => hin (Or.inr q)
  have h0 : ¬ i < 0 := fun q => hin (Or.inl q)
  have hA0 := hP2 0 _ rfl
  obtain ⟨r', hr', cellV, q1, q2, q3, -⟩ := hP2 1 _ rfl
  have hcls := (hK.1 0 (R_Graph, F_Graph, 4) rfl).2
  obtain ⟨kA, comp, k1, k2, k3, -⟩ := (hK.2 4 (G.2.1 4, .object "HomBench$Graph") rfl).2
  have hcomp : comp = G.1.1 0 := Option.some.inj (k3.symm.trans hcls.1)
  subst hcomp
  obtain ⟨kC, hkC, -⟩ := hcls.2
  subst g1
  refine W.aast hx hb hA0 (fun q h => by cases h) (fun h => by cases h) k1 k2 rfl hkC ⟨h0, by show _ < (arrV _ _ _).slots.size; rw [arrV_size]; exact hlt⟩ q1 (fun q h => by rw [q3] at h; cases h) (by rw [q2]; exact hkC) (by rw [q2]; exact va_assign hcls) rfl rfl hd fun H1 e1 z1 oq => ?_
  refine kk H1 _ ls (z1.trans hz) (fun k x hx => ?_) (hS.kept (fun d hd => oq _ (g5 d hd))) (hSS.put z1 oq g2) hl hC
  match k, hx with
  | 0, hx => cases hx; exact (ho 0 _ rfl).kept (oq _ hx0)
  | 1, hx =>
    cases hx
    show H1[ua]? = some (vp_cell _ _)
    rw [e1]
    rw [vp_cell_q, vp_cell_q, arrV_store]
    congr 2
    funext q
    by_cases hq : q = i.toNatClampNeg
    · subst hq
      simp [updV, va_up, va_rf]
    · simp [updV, va_up, hq]
  | k + 2, hx => simp at hx
end NR
/-- the contract of a constructor: of the object with the id c, whose cells are blk -/
def NSpec (y : MethodName) (b : ByteArray) (nL lev mc ms c : Nat) (blank : va_E) (blk : List Nat) : Prop :=
  ∀ (l : Launch) (G : HGeo) (base bs : Nat), HGeoAt G base bs → Met l y (.code y b nL none :: h_tb) { frames := lev, cells := mc, slots := ms, locals := 64 * lev } (va_Pc [.ref (G.2.2 c)] (fun U => U.heap.size = G.2.2 c + 1 ∧ va_at G.1 h_cl (G.2.2 c, blank) U.heap ∧ va_K G.1 h_cl (h_tys G) U ∧ h_mk G U))
    (fun _ st o t => o = .returned none ∧ (t.heap.size = G.2.2 c + 1 + mc ∧ HDone G (fun d => d ∈ blk) t.heap) ∧ va_F (fun q => G.2.2 c ≤ q) st t) mc ms (fun q => G.2.2 c ≤ q)
def NQ (cx : HCx) (c mc ms : Nat) (blk : List Nat) : State → Prop := match cx with
  | (_, _, _, _, s, _, args, below, _, _, G, _) => MQ below (fun _ st o t => o = .returned none ∧ (t.heap.size = G.2.2 c + 1 + mc ∧ HDone G (fun d => d ∈ blk) t.heap) ∧ va_F (fun q => G.2.2 c ≤ q) st t) args s mc ms (fun q => G.2.2 c ≤ q)
/-- what a constructor's walk stands on -/
def NCx (cx : HCx) (c base bs : Nat) : Prop := match cx with
  | (_, _, _, _, s, _, _, _, meth, _, G, A) => HGeoAt G base bs ∧ (A = fun q => G.2.2 c ≤ q) ∧ meth.name = "<init>" ∧ s.heap.size = G.2.2 c + 1
theorem NSpec.of {y : MethodName} {b : ByteArray} {nL lv mc ms c : Nat} {blank : va_E} {blk : List Nat} (hy : plainName y.cls = true) (hyn : y.name = "<init>") (hn : 1 ≤ nL)
    (body : ∀ (cx : HCx) (base bs : Nat), NCx cx c base bs → NGood cx y.cls b nL lv mc ms none → NX cx (NQ cx c mc ms blk) [(cx.2.2.2.2.2.2.2.2.2.2.1.2.2 c, blank)] (fun _ => False) (cx.2.2.2.2.2.2.2.2.2.2.1.2.2 c + 1) 0 0 0 [(0, .ref (cx.2.2.2.2.2.2.2.2.2.2.1.2.2 c))] []) : NSpec y b nL lv mc ms c blank blk := by
  intro l G base bs hG
  refine Met.ofW (cc := b) (maxL := nL) (ret := none) hy rfl ?_
  intro p e s m args below meth c1 s₁ B hml hv
  obtain ⟨rfl, hsz, hat, hK, hmk⟩ := hv
  have hts := atoms_spec (ws := Cond.code y b nL none :: h_tb) B.pre
  have hin : meth.name = "<init>" := (name_of_methodNamed B.named B.method).1.trans hyn
  have hg : NGood (p, l, e, { frames := lv, cells := mc, slots := ms, locals := 64 * lv }, s, m, ([Value.ref (G.2.2 c)] : List Value).toArray, below, meth, c1, G, fun q => G.2.2 c ≤ q) y.cls b nL lv mc ms none := ⟨B.exec, B.bytes, hml, findClass_of_methodNamed B.named, fun w hw => hts w (List.mem_cons_of_mem _ hw), hK, hmk, ⟨Nat.le_refl _, Nat.le_refl _, Nat.le_refl _, Nat.le_refl _⟩, B.notSynchronized, B.returns⟩
  have hx := body (p, l, e, { frames := lv, cells := mc, slots := ms, locals := 64 * lv }, s, m, ([Value.ref (G.2.2 c)] : List Value).toArray, below, meth, c1, G, fun q => G.2.2 c ≤ q) base bs ⟨hG, rfl, hin, hsz⟩ hg s.heap []
  have hl := lv_entry ([Value.ref (G.2.2 c)]) (n := nL) (by show 1 ≤ nL; exact hn)
  rw [lg_entry_eq]
  refine hx _ hsz (fun k x hx => ?_) (fun d hd => hd.elim) va_S.rf ?_ ⟨Nat.zero_le _, Nat.zero_le _⟩
  · match k, hx with
    | 0, hx => cases hx; exact hat
    | k + 1, hx => simp at hx
  · rw [hml]
    exact hl
section NR2
variable {cx : HCx} {Q : State → Prop} {us : va_W} {S : Nat → Prop} {z k n pc : Nat} {l : List (Nat × Value)} {st : List Value} {own : String} {b : ByteArray} {nL lv mc ms : Nat} {rt : Option FieldType}
theorem n_vret {c base bs : Nat} {blk : List Nat} (hg : NGood cx own b nL lv mc ms none) (hN : NCx cx c base bs) (hd : decode b pc = .ok (.return_, 1)) (hz : match cx with
      | (_, _, _, _, _, _, _, _, _, _, G, _) => z = G.2.2 c + 1 + mc) (hk : k = mc) (hn : n = ms) (hblk : match cx with
      | (_, _, _, _, _, _, _, _, _, _, G, _) => ∀ d ∈ blk, S d ∨ ∃ q ∈ us, q.1 = G.2.2 d ∧ (∀ H, va_at G.1 h_cl q H → va_at G.1 h_cl (G.2.2 d, h_cell G h_μ0 d) H)) : NX cx (NQ cx c mc ms blk) us S z k n pc l [] := by
  obtain ⟨p, lc, e, Rm, s, m, args, below, meth, c1, G, A⟩ := cx
  intro H locs ls hz1 ho hS hSS hl hC
  obtain ⟨hx, hb, hml, hown, hts, hK, hmk, hR, hlk, hrt⟩ := id hg
  obtain ⟨hG, hA, hin, hsz⟩ := hN
  have hz' : z = G.2.2 c + 1 + mc := hz
  subst hk
  subst hn
  simp only [NQ]
  refine W.vret hx hb hrt (fun t ht hw => ⟨rfl, ⟨by rw [ht, hz1]; exact hz', fun d hd => ?_⟩, by rw [← hA]; exact hSS.F ht⟩) (fun q hq => by have := hSS.2.2 q hq; rw [hA] at this; exact this) hd hlk
  rw [ht]
  rcases hblk d hd with h | ⟨q, hq, -, h⟩
  · exact hS d h
  · obtain ⟨i, hi⟩ := List.getElem?_of_mem hq
    exact h H (ho i q hi)
/-- new X(): the object has the id d -/
theorem h_callM2 {p : Program} {l : Launch} {e : Env} {R : Room} {s : State} {m : MethodId} {args : Array Value} {below : List Frame} {meth : Method} {c : Code} {H : Heap} {locs : List Loc} {cells slots mc ms : Nat} {Q : State → Prop} {pc : Nat} {ls : Array Slot} {rest st0 : List Value} {A0 A1 : Nat → Prop} {H0 : Heap} {free : Addr → Prop} {v : Option Value} {P : Heap → Prop} (hr : va_Run p l e R s m args below meth c H locs cells slots mc ms (F0 m pc ls st0) rest (fun st o t => o = .returned v ∧ P t.heap ∧ va_F A1 st t) free) (hS : va_S A0 H0 H locs) (hA : ∀ q, q < H.size → A1 q → A0 q) (hf : ∀ q, free q → A0 q)
    (kk : ∀ (H1 : Heap) (locs1 : List Loc), P H1 → (∀ q : Nat, q < H.size → ¬ A1 q → H1[q]? = H[q]?) → va_S A0 H0 H1 locs1 → W p l e R s m args below meth c H1 locs1 (cells + mc) (slots + ms) Q (F0 m (pc + 3) ls (v.toList ++ rest))) : W p l e R s m args below meth c H locs cells slots Q (F0 m pc ls st0) := by
  intro T hT X
  obtain ⟨v', st₀, t, T', L, h0, X', hL, e1, e2, ⟨hv, hp, hF⟩, st⟩ := hr T hT X
  cases hv
  obtain ⟨k1, k2, k3⟩ := vx_keep h0 e1 hS hA hf hL hF
  obtain ⟨t2, a1, b1⟩ := kk T'.heap (locs ++ L) (by rw [e1]; exact hp) k2 k3 T' rfl X'
  exact ⟨t2, st t2 a1, b1⟩
theorem n_make (hg : NGood cx own b nL lv mc ms rt) {y : MethodName} {b' : ByteArray} {nL' lv' mc' ms' d ci N i1 i2 base bs : Nat} {C : String} {T : u_T} {ty0 : Nat → FieldType} {fs : List Value} {blk : List Nat} (hsp : NSpec y b' nL' lv' mc' ms' d (.inr (ci, fs)) blk) (hgeo : match cx with
      | (_, _, _, _, _, _, _, _, _, _, G, A) => HGeoAt G base bs ∧ G.2.2 d = z ∧ (∀ q, z ≤ q → A q) ∧ ∀ e, S e → G.2.2 e < z) (hso : ∀ q ∈ us, q.1 < z)
    (hc : h_cls ci C T N) (hty : ∀ k, k < N → parseFieldDescriptor (T k).2.2.1 = some (ty0 k)) (hfs : ∀ j, j < N → defaultValue (ty0 j) = vp_V fs j) (hy : (∀ w ∈ ([.instanceMethod y, .initialized y.cls, .code y b' nL' none, .classLink own i1 C, .instantiable C N, .initialized C] : List Cond), w ∈ h_tb) ∧ y.name = "<init>" ∧ y.cls ≠ "java/lang/invoke/MethodHandle" ∧ y.cls ≠ "java/lang/invoke/VarHandle" ∧ (parseMethodDescriptor y.desc).map (fun d => d.parameters.length) = some 0)
    (hlink : (∃ host, (own, i2, y, host) ∈ h_nests2) ∨ Cond.methodLink own i2 y ∈ h_tb) (hlv : lv' + 1 ≤ lv ∧ nL' ≤ 45) (hkn : k + 1 + mc' ≤ mc ∧ n + N + ms' ≤ ms) (hst : (st.map fun v => v.category).sum + 1 ≤ 8) (d0 : decode b pc = .ok (.new i1, 3)) (d3 : decode b (pc + 3) = .ok (.dup, 1)) (d4 : decode b (pc + 3 + 1) = .ok (.invokespecial i2, 3))
    (kk : NX cx Q us (fun e => S e ∨ e ∈ blk) (z + 1 + mc') (k + 1 + mc') (n + N + ms') (pc + 3 + 1 + 3) l (.ref z :: st)) : NX cx Q us S z k n pc l st := by
  obtain ⟨p, lc, e, Rm, s, m, args, below, meth, c1, G, A⟩ := cx
  intro H locs ls hz ho hS hSS hl hC
  obtain ⟨hx, hb, hml, hown, hts, hK, hmk, hR, hlk, hrt⟩ := id hg
  obtain ⟨hG, hdz, hAz, hSz⟩ := hgeo
  have hw : ∀ w ∈ ([.instanceMethod y, .initialized y.cls, .code y b' nL' none, .classLink own i1 C, .instantiable C N, .initialized C] : List Cond), w.before args s = true := fun w h => hts w (hy.1 w h)
  have hKn := hK.1 ci _ hc.1
  refine W.newcK hx hb hown (hw (.classLink own i1 C) (by simp)) (hw (.instantiable C N) (by simp)) (hw (.initialized C) (by simp)) rfl d0 (by omega) (by omega) hKn.2.1 rfl fun H1 kC hkC e1 z1 o1 => ?_
  have hat : va_at G.1 h_cl (G.2.2 d, .inr (ci, fs)) H1 := by
    rw [hdz, ← hz]
    exact ⟨_, hc.1, (u_born ty0 hts hc.2 hKn hkC e1 hty).to hfs⟩
  have hSS1 : va_S A s.heap H1 locs := ⟨Nat.le_trans hSS.1 (by omega), fun x h1 h2 => (o1 x (Nat.lt_of_lt_of_le h1 hSS.1)).trans (hSS.2.1 x h1 h2), hSS.2.2⟩
  refine W.eq (g2 := F0 m (pc + 3) ls (.ref H.size :: st)) rfl ?_
  refine lv_dup hx hb d3 rfl ?_
  have hM := hsp lc G base bs hG
  have hrm : lv' + 1 ≤ Rm.frames ∧ 8 + (nL' + 11) + 64 * lv' ≤ Rm.locals := ⟨by omega, by omega⟩
  have hpre : PreS s H1 (va_Pc [.ref (G.2.2 d)] (fun U => U.heap.size = G.2.2 d + 1 ∧ va_at G.1 h_cl (G.2.2 d, .inr (ci, fs)) U.heap ∧ va_K G.1 h_cl (h_tys G) U ∧ h_mk G U)) [.ref (G.2.2 d)] := by
    refine ⟨fun a U g mk h => ⟨h.1, h.2.1, h.2.2.1, va_K.moved (u := U) (U := U.calling g mk a) (Vm.Alike.refl U.vm) h.2.2.2.1, h_mk.same (U := U.calling g mk a) rfl h.2.2.2.2⟩, fun U hU hW => ⟨rfl, by rw [hU, z1, hdz, hz], by rw [hU]; exact hat, va_K.moved hW.alike hK, h_mk.warm hW hmk⟩⟩
  have hfin : ∀ (hrun : va_Run p lc e Rm s m args below meth c1 H1 locs (k + 1) (n + N) mc' ms' (F0 m (pc + 3 + 1) ls (.ref H.size :: .ref H.size :: st)) (.ref H.size :: st) ((fun _ st o t => o = .returned none ∧ (t.heap.size = G.2.2 d + 1 + mc' ∧ HDone G (fun d => d ∈ blk) t.heap) ∧ va_F (fun q => G.2.2 d ≤ q) st t) (Value.ref H.size :: []).toArray) (fun q => G.2.2 d ≤ q)), W p lc e Rm s m args below meth c1 H1 locs (k + 1) (n + N) Q (F0 m (pc + 3 + 1) ls (.ref H.size :: .ref H.size :: st)) := by
    intro hrun
    refine h_callM2 (v := none) (P := fun H2 => H2.size = G.2.2 d + 1 + mc' ∧ HDone G (fun d => d ∈ blk) H2) (A1 := fun q => G.2.2 d ≤ q) hrun hSS1 (fun q _ hq => hAz q (by rw [← hdz]; exact hq)) (fun q hq => hAz q (by rw [← hdz]; exact hq)) (fun H2 locs2 hP2 hk2 hSS2 => ?_)
    have hold : ∀ q, q < z → H2[q]? = H[q]? := fun q hq => (hk2 q (by omega) (by rw [hdz]; omega)).trans (o1 q (by omega))
    have hz2 : H.size = z := hz
    rw [hz2]
    refine kk H2 locs2 ls (by rw [hP2.1, hdz]) (ho.kept (fun k x hx => hold _ (hso x (List.mem_of_getElem? hx)))) ?_ hSS2 hl ⟨by omega, by omega⟩
    intro d' hd'
    rcases hd' with hd' | hd'
    · exact (hS d' hd').kept (hold _ (hSz d' hd'))
    · exact hP2.2 d' hd'
  have hzz : G.2.2 d = H.size := by rw [hdz, hz]
  rw [hzz] at hpre hM hfin
  rcases hlink with ⟨host, hl1⟩ | hl1
  · refine hfin (va_runIN (host := host) (As := []) (rest := .ref H.size :: st) (Ts := h_tb) ⟨hx, hb, rfl, hown, hts⟩ hM ⟨va_cnB (Ts := h_tb) 0 hts (h_good (fun w hw => (List.mem_cons.mp hw).elim (fun h => h ▸ hy.1 _ (by simp)) id)) rfl rfl rfl (hmk.1 _ hl1) (hw _ (by simp)) hy.2.2 ⟨hrm.1, hrm.2⟩, hy.2.1, hw _ (by simp)⟩ hpre rfl rfl hl.1 rfl ?_ d4 ⟨by omega, by omega⟩)
    show 2 * 0 + (List.map _ (Value.ref H.size :: st)).sum ≤ 8
    simp only [List.map_cons, List.sum_cons]
    show 2 * 0 + (1 + _) ≤ 8
    omega
  · refine hfin (va_runI (As := []) (rest := .ref H.size :: st) (Ts := h_tb) ⟨hx, hb, rfl, hown, hts⟩ hM ⟨callB_of (Ts := h_tb) 0 hts (h_good (fun w hw => (List.mem_cons.mp hw).elim (fun h => h ▸ hy.1 _ (by simp)) id)) rfl rfl rfl (hw _ (by simp)) (hts _ hl1) hy.2.2 ⟨hrm.1, hrm.2⟩, hy.2.1, hw _ (by simp)⟩ hpre rfl rfl hl.1 rfl ?_ d4 ⟨by omega, by omega⟩)
    show 2 * 0 + (List.map _ (Value.ref H.size :: st)).sum ≤ 8
    simp only [List.map_cons, List.sum_cons]
    show 2 * 0 + (1 + _) ≤ 8
    omega
end NR2
